import java.util.Arrays;

/** A house that engraves music, as ../shared/DOC.md tells it; the promises are named there. */
public final class EngraversHouse {
    public static final int NONE = -1, BAD = -2, STATE = -3, FULL = -4;
    public static final long NO = Long.MIN_VALUE;

    private static final int NOTHING = -11, CAST = -12, PLACE = -13, SIZE = -14;
    private static final int NONE_SUCH = -5;
    private static final int NOTHING_OF = -100;

    private static final int THING = 0, SCORE = 1, PART = 2, PLATE = 3, EDITION = 4, SET = 5, DERIVED = 6, ERRATUM = 7;
    private static final int[] KIND_ABOVE = {-1, 0, 1, 0, 0, 2, 1, 0};

    private static final int HOLDS = 0, TURNS = 1, EARNS = 2;
    /** The number of a kind's own body for an act (kind times 3 and act), 0 where it has none. */
    private static final int[] BODIES = {
        10, 11, 12, 20, 0, 0, 0, 30, 0, 0, 0, 40, 50, 0, 0, 61, 60, 0, 0, 0, 70, 0, 80, 0};
    /** Far above what the bodies can need: earns calls turns, turns calls holds, and each goes up three kinds. */
    private static final int DEEPEST_BODY = 40;
    private static final int TRACE_KEPT = 20;

    private static final int THINGS = 60, AUTHORS = 12, LANDS = 4, CONTRACTS = 12, HANDS = 4, TOWNS = 6, ASKS = 9;
    private static final int VOICES = 4, BARS = 20, NOTES = 8, METER_LEAST = 2, METER_MOST = 12, LENGTH_MOST = 12;
    private static final int PITCH_MOST = 60, MENDED_MOST = 72, SHIFT_MOST = 12;
    private static final int PLATE_BARS = 8, PRESS_PLATES = 12;
    private static final int LAST_DAY = 9999, PASS_MOST = 400, YEAR = 365, LIVES = -1;
    private static final int TEXT_BYTES = 120, CLAUSES = 8, WITHIN_MOST = 5, DIGITS = 3;
    private static final int LIFE_UNTOLD = 10, LEAST_UNTOLD = 0;
    private static final int SUM_MOST = 100000, MINUTES_MOST = 999;
    private static final int WAY_MOST = 99, WORTH_MOST = 999;
    private static final int MONTHS = 10, COPIES_MOST = 999, SETUP_MOST = 9999, HOLD_MOST = 99, PRINT_MOST = 9999;
    private static final int WIDTH_LEAST = 5, WIDTH_MOST = 99, PAGE_LINES = 4, HARD_TURN = 1000, LINE_ASKED = 10;
    private static final int TAPES = 6, TAPE_ITEMS = 60, EMPTY = -1, BYTES = 0, SHORTS = 1, BOOLEANS = 3;
    private static final int CAME = 0, TORN = 1, NO_NOTE = 2, NO_ROOM = 3;

    private int today = 0;
    private final int[] deaths = new int[AUTHORS];
    private int authorCount = 0;
    private final Thing[] things = new Thing[THINGS];
    private int thingCount = 0;
    private int musicEnd = NONE;
    private final Plate[] pressed = new Plate[PRESS_PLATES];
    private int pressCount = 0;
    private final Layout layout = new Layout();
    private final int[] text = new int[TEXT_BYTES];
    private int textLength = 0;
    private final Contract[] contracts = new Contract[CONTRACTS];
    private int contractCount = 0;
    private final Tour tour = new Tour();
    private final PrintPlan plan = new PrintPlan();
    private final int[][] tapes = new int[TAPES][TAPE_ITEMS];
    private final int[] tapeSorts = new int[TAPES];
    private final int[] tapeSizes = new int[TAPES];
    private final int[] bodiesRun = new int[TRACE_KEPT];
    private int bodyCount = 0;

    public EngraversHouse() {
        Arrays.fill(tapeSorts, EMPTY);
    }

    // ---- authors, scores

    public int pass(int n) {
        if (!within(n, 1, PASS_MOST) || today + n > LAST_DAY) {
            return BAD;
        }
        today += n;
        return today;
    }

    public int author() {
        if (authorCount >= AUTHORS) {
            return FULL;
        }
        deaths[authorCount] = LIVES;
        authorCount++;
        return authorCount - 1;
    }

    public int died(int author, int day) {
        if (!isAuthor(author)) {
            return NONE;
        }
        if (!within(day, 0, today)) {
            return BAD;
        }
        if (deaths[author] != LIVES) {
            return STATE;
        }
        deaths[author] = day;
        return 1;
    }

    public int score(int author, int meter, int voices) {
        if (!isAuthor(author)) {
            return NONE;
        }
        if (!isMeter(meter) || !within(voices, 1, VOICES)) {
            return BAD;
        }
        if (thingCount >= THINGS) {
            return FULL;
        }
        return keep(new Score(thingCount, null, author, meter, voices));
    }

    public int derive(int score, int author, int meter, int voices) {
        if (thingAt(score) == null || !isAuthor(author)) {
            return NONE;
        }
        Score from = scoreAt(score);
        if (from == null) {
            return CAST;
        }
        if (!isMeter(meter) || !within(voices, 1, VOICES)) {
            return BAD;
        }
        if (thingCount >= THINGS) {
            return FULL;
        }
        return keep(new Score(thingCount, from.rootScore(), author, meter, voices));
    }

    public int note(int score, int voice, int pitch, int length, int tied) {
        Score s = scoreAt(score);
        if (s == null) {
            return lacking(score);
        }
        if (!s.hasVoice(voice)) {
            return NONE;
        }
        if (!isNote(pitch, length, tied)) {
            return BAD;
        }
        int refusal = s.takeNote(voice, noteCode(pitch, length, tied));
        return refusal != 0 ? refusal : s.wholeBars(voice);
    }

    public int alter(int score, int voice, int bar, int i, int pitch) {
        Score s = scoreAt(score);
        if (s == null) {
            return lacking(score);
        }
        Bar whole = s.wholeBar(voice, bar);
        if (whole == null || !whole.hasNote(i)) {
            return NONE;
        }
        return repitched(whole, i, pitch, PITCH_MOST);
    }

    public int music(int score, int voice, int tape, int i, int n) {
        if (thingAt(score) == null || !isTape(tape)) {
            return NONE;
        }
        Score s = scoreAt(score);
        if (s == null) {
            return CAST;
        }
        if (!s.hasVoice(voice)) {
            return NONE;
        }
        if (!within(n, 1, TAPE_ITEMS)) {
            return BAD;
        }
        if (tapeSorts[tape] != EMPTY && tapeSorts[tape] != SHORTS) {
            return CAST;
        }
        int came = 0;
        musicEnd = CAME;
        while (came < n && musicEnd == CAME) {
            musicEnd = takeFromTape(s, voice, tape, (long) i + came);
            if (musicEnd == CAME) {
                came++;
            }
        }
        return came;
    }

    public int ended() {
        return musicEnd == NONE ? STATE : musicEnd;
    }

    public int of(int thing, int what) {
        Thing t = thingAt(thing);
        if (t == null) {
            return NOTHING_OF;
        }
        switch (what) {
            case 0:
                return t.kind;
            case 1:
                return t.scoreNumber();
            case 2:
                return t.second();
            case 3:
                return t.third();
            default:
                return NOTHING_OF;
        }
    }

    public int bars(int score, int voice) {
        Score s = scoreAt(score);
        if (s == null) {
            return lacking(score);
        }
        return s.hasVoice(voice) ? s.wholeBars(voice) : NONE;
    }

    // ---- parts, plates

    public int part(int score, int voice, int shift) {
        Score s = scoreAt(score);
        if (s == null) {
            return lacking(score);
        }
        if (!s.hasVoice(voice)) {
            return NONE;
        }
        if (!within(shift, -SHIFT_MOST, SHIFT_MOST)) {
            return BAD;
        }
        if (thingCount >= THINGS) {
            return FULL;
        }
        return keep(new Part(PART, thingCount, s, voice, shift));
    }

    public int heard(int part, int bar, int i) {
        Part p = partAt(part);
        return p == null ? NONE_SUCH : tellNote(p.barAsRead(bar), i);
    }

    public int plate(int part, int a, int b) {
        Part p = partAt(part);
        if (p == null) {
            return lacking(part);
        }
        if (a < 0 || b < a || b >= p.barCount() || b - a >= PLATE_BARS) {
            return BAD;
        }
        if (thingCount >= THINGS) {
            return FULL;
        }
        return keep(new Plate(thingCount, p, a, b));
    }

    public int mend(int plate, int bar, int i, int pitch) {
        Plate p = plateAt(plate);
        if (p == null) {
            return lacking(plate);
        }
        Bar cut = p.cutBar(bar);
        if (cut == null || !cut.hasNote(i)) {
            return NONE;
        }
        return repitched(cut, i, pitch, MENDED_MOST);
    }

    public int differs(int plate, int what) {
        if (thingAt(plate) == null || !within(what, 0, 1)) {
            return NONE;
        }
        Plate p = plateAt(plate);
        if (p == null) {
            return CAST;
        }
        int unlike = p.unlikeBars();
        if (what == 0) {
            return Integer.bitCount(unlike);
        }
        return unlike == 0 ? NONE : p.first + Integer.numberOfTrailingZeros(unlike);
    }

    // ---- editions

    public int press(int plate) {
        Plate p = plateAt(plate);
        if (p == null) {
            return lacking(plate);
        }
        if (pressCount > 0 && pressed[0] != null && pressed[0].part.score != p.part.score) {
            return STATE;
        }
        if (pressCount >= PRESS_PLATES) {
            return FULL;
        }
        pressed[pressCount] = p;
        pressCount++;
        return pressCount;
    }

    public int edition() {
        if (pressCount == 0 || pressed[0] == null) {
            return STATE;
        }
        if (thingCount >= THINGS) {
            return FULL;
        }
        Edition made = new Edition(thingCount, pressed[0].part.score, pressCount);
        for (int k = 0; k < pressCount; k++) {
            made.takePlate(pressed[k]);
        }
        pressCount = 0;
        return keep(made);
    }

    public int printed(int edition, int voice, int bar, int i, int amended) {
        Edition e = editionAt(edition);
        if (e == null || !within(amended, 0, 1)) {
            return NONE_SUCH;
        }
        Bar plain = e.barOf(voice, bar);
        int told = tellNote(plain, i);
        if (told == NONE_SUCH || i == -1 || amended == 0) {
            return told;
        }
        return amendedNote(e, voice, bar, i, thingCount);
    }

    public int erratum(int edition, int voice, int bar, int i, int from, int to) {
        if (thingAt(edition) == null || !within(voice, 0, VOICES - 1)) {
            return NONE;
        }
        Edition e = editionAt(edition);
        if (e == null) {
            return CAST;
        }
        if (!within(bar, 0, BARS - 1) || !within(i, 0, NOTES - 1)
                || !within(from, 1, PITCH_MOST) || !within(to, 1, PITCH_MOST)) {
            return BAD;
        }
        if (thingCount >= THINGS) {
            return FULL;
        }
        Erratum made = new Erratum(thingCount, e, placeInEdition(voice, bar, i), from, to);
        e.errata++;
        return keep(made);
    }

    public int idle(int erratum) {
        Erratum r = erratumAt(erratum);
        if (r == null) {
            return lacking(erratum);
        }
        int code = amendedNote(r.edition, r.voice(), r.bar(), r.noteIndex(), r.number);
        return code != NONE_SUCH && !isRest(code) && pitchOf(code) == r.from ? 0 : 1;
    }

    public int changes(int a, int b, int voice) {
        if (thingAt(a) == null || thingAt(b) == null || !within(voice, -1, VOICES - 1)) {
            return NONE;
        }
        Edition one = editionAt(a);
        Edition other = editionAt(b);
        if (one == null || other == null) {
            return CAST;
        }
        if (one.score != other.score) {
            return STATE;
        }
        return voice == -1 ? one.distanceTo(other) : one.changesTo(other, voice);
    }

    public int hangs(int edition) {
        Edition e = editionAt(edition);
        if (e == null) {
            return NONE_SUCH;
        }
        growTree(e.score);
        return e.hangsOn;
    }

    // ---- pages

    public int pages(int part, int width, int lines, int what) {
        if (thingAt(part) == null || what < 0 || within(what, 2, LINE_ASKED - 1)) {
            return NONE;
        }
        Part p = partAt(part);
        if (p == null) {
            return CAST;
        }
        if (!within(width, WIDTH_LEAST, WIDTH_MOST) || !within(lines, 1, PAGE_LINES)) {
            return BAD;
        }
        layout.measure(p);
        if (!layout.fits(width)) {
            return STATE;
        }
        layout.fill(width, lines);
        if (what == 0) {
            return layout.leastCost();
        }
        return what == 1 ? layout.lineCount(lines) : layout.barsInLine(what - LINE_ASKED, lines);
    }

    // ---- contracts

    public int feed(int bytes, int n) {
        if (!within(n, 0, 4)) {
            return BAD;
        }
        if (textLength + n > TEXT_BYTES) {
            return FULL;
        }
        for (int k = n - 1; k >= 0; k--) {
            text[textLength] = (bytes >> (8 * k)) & 255;
            textLength++;
        }
        return textLength;
    }

    public int contract(int land, int day) {
        if (!within(land, 0, LANDS - 1)) {
            return NONE;
        }
        if (!isDay(day)) {
            return BAD;
        }
        if (contractCount >= CONTRACTS) {
            return FULL;
        }
        Contract told = new Contract(land, day, Arrays.copyOf(text, textLength));
        textLength = 0;
        if (!told.readAll(NONE, NONE)) {
            return -10 - told.place;
        }
        contracts[contractCount] = told;
        contractCount++;
        return contractCount - 1;
    }

    public int lawful(int land, int day, int what) {
        if (!within(land, 0, LANDS - 1) || !isDay(day)) {
            return NONE_SUCH;
        }
        int number = contractNumber(land, day);
        Contract law = contractAt(number);
        switch (what) {
            case 0:
                return number;
            case 1:
                return lifeBy(law);
            case 2:
                return law == null ? LEAST_UNTOLD : law.least;
            case 3:
                return law == null ? 0 : law.shares;
            default:
                return NONE_SUCH;
        }
    }

    public int right(int author, int land, int day) {
        if (!isAuthor(author) || !within(land, 0, LANDS - 1)) {
            return NONE;
        }
        if (!isDay(day)) {
            return BAD;
        }
        return hasRight(author, contractAt(contractNumber(land, day)), day) ? 1 : 0;
    }

    public int paid(int score, int land, int day, int act, int sum, int minutes, int who) {
        if (thingAt(score) == null || !within(land, 0, LANDS - 1) || !within(who, 0, 2)) {
            return NONE;
        }
        Score s = scoreAt(score);
        if (s == null) {
            return CAST;
        }
        if (!isDay(day) || !within(act, 0, 2) || !within(sum, 0, SUM_MOST) || !within(minutes, 0, MINUTES_MOST)) {
            return BAD;
        }
        Contract law = contractAt(contractNumber(land, day));
        int author = s.rootScore().author;
        boolean derived = s.kind == DERIVED;
        if (law != null) {
            law.asked(derived, wholeYearsSince(author, day), minutes);
        }
        int toAuthor = law != null && hasRight(author, law, day) ? law.shareOf(0, act, sum) : 0;
        toAuthor = Math.min(toAuthor, sum);
        int toArranger = law != null && derived && hasRight(s.author, law, day) ? law.shareOf(1, act, sum) : 0;
        toArranger = Math.min(toArranger, sum - toAuthor);
        if (who == 2) {
            return sum - toAuthor - toArranger;
        }
        return who == 0 ? toAuthor : toArranger;
    }

    // ---- hire, prints, proofs

    public int set(int part) {
        Part p = partAt(part);
        if (p == null) {
            return lacking(part);
        }
        if (thingCount >= THINGS) {
            return FULL;
        }
        return keep(new Part(SET, thingCount, p.score, p.voice, p.shift));
    }

    public int stands(int set, int town) {
        if (thingAt(set) == null || !isTown(town)) {
            return NONE;
        }
        Part s = setAt(set);
        if (s == null) {
            return CAST;
        }
        int was = s.town;
        s.town = town;
        return was;
    }

    public int way(int a, int b, int days) {
        if (!isTown(a) || !isTown(b)) {
            return NONE;
        }
        if (a == b || !within(days, 0, WAY_MOST)) {
            return BAD;
        }
        return tour.changeWay(a, b, days);
    }

    public int ask(int town, int from, int to, int worth) {
        if (!isTown(town)) {
            return NONE;
        }
        if (!isDay(from) || !within(to, from, LAST_DAY) || !within(worth, 0, WORTH_MOST)) {
            return BAD;
        }
        if (tour.count >= ASKS) {
            return FULL;
        }
        return tour.addAsk(town, from, to, worth);
    }

    public int askless() {
        int were = tour.count;
        tour.count = 0;
        return were;
    }

    public int hire(int set, int what) {
        if (thingAt(set) == null || !within(what, 0, 1)) {
            return NONE;
        }
        Part s = setAt(set);
        if (s == null) {
            return CAST;
        }
        int first = tour.bestFirst(s.town, today);
        return what == 0 ? tour.worthFrom(first) : tour.bitsFrom(first);
    }

    public int month(int copies) {
        if (!within(copies, 0, COPIES_MOST)) {
            return BAD;
        }
        if (plan.months >= MONTHS) {
            return FULL;
        }
        plan.asked[plan.months] = copies;
        plan.months++;
        return plan.months;
    }

    public int costs(int setup, int hold, int most) {
        if (!within(setup, 0, SETUP_MOST) || !within(hold, 0, HOLD_MOST) || !within(most, 1, PRINT_MOST)) {
            return BAD;
        }
        int were = plan.months;
        plan.setup = setup;
        plan.hold = hold;
        plan.most = most;
        plan.months = 0;
        return were;
    }

    public int prints(int what) {
        if (!within(what, 0, 1)) {
            return NONE;
        }
        if (plan.asksTooMuch()) {
            return STATE;
        }
        int first = plan.bestFirst();
        return what == 0 ? plan.cost[first] : plan.bits[first];
    }

    public int proof(int hand, int plate, int bits) {
        if (!isHand(hand) || thingAt(plate) == null) {
            return NONE;
        }
        Plate p = plateAt(plate);
        if (p == null) {
            return CAST;
        }
        if (!within(bits, 0, (1 << p.bars.length) - 1)) {
            return BAD;
        }
        p.marks[hand] = bits;
        return Integer.bitCount(bits & p.unlikeBars());
    }

    public long left(int plate, int a, int b, int part) {
        Plate p = plateAt(plate);
        if (p == null || !isHand(a) || !isHand(b) || a == b || !within(part, 0, 1)) {
            return NO;
        }
        int one = p.marks[a];
        int other = p.marks[b];
        if (one == NONE || other == NONE || (one & other) == 0) {
            return NO;
        }
        int both = Integer.bitCount(one & other);
        int above = (Integer.bitCount(one) - both) * (Integer.bitCount(other) - both);
        int divisor = commonDivisor(above, both);
        return part == 0 ? above / divisor : both / divisor;
    }

    public int missed(int hand, int plate) {
        if (!isHand(hand) || thingAt(plate) == null) {
            return NONE;
        }
        Plate p = plateAt(plate);
        if (p == null) {
            return CAST;
        }
        if (p.marks[hand] == NONE) {
            return STATE;
        }
        return Integer.bitCount(p.unlikeBars() & ~p.marks[hand]);
    }

    // ---- acts, tapes

    public int act(int thing, int act, int x) {
        bodyCount = 0;
        Thing t = thingAt(thing);
        if (t == null || !within(act, HOLDS, EARNS)) {
            return 0;
        }
        return runBody(t, act, t.kind, x, 0);
    }

    public int trace(int i) {
        return within(i, 0, Math.min(bodyCount, TRACE_KEPT) - 1) ? bodiesRun[i] : NONE;
    }

    public int taken(int thing, int k) {
        if (!within(k, THING, ERRATUM)) {
            return BAD;
        }
        Thing t = thingAt(thing);
        if (t == null) {
            return NOTHING;
        }
        return isUnder(t.kind, k) ? t.kind : CAST;
    }

    public int count(int what) {
        switch (what) {
            case 0:
                return today;
            case 1:
                return authorCount;
            case 2:
                return thingCount;
            case 3:
                return contractCount;
            case 4:
                return textLength;
            case 5:
                return pressCount;
            case 6:
                return tour.count;
            case 7:
                return plan.months;
            case 8:
                return bodyCount;
            default:
                return BAD;
        }
    }

    public int tape(int tape, int sort, int n) {
        if (!isTape(tape)) {
            return NONE;
        }
        if (!within(sort, EMPTY, BOOLEANS) || sort != EMPTY && n > TAPE_ITEMS) {
            return BAD;
        }
        if (sort != EMPTY && n < 0) {
            return SIZE;
        }
        tapeSorts[tape] = sort;
        tapeSizes[tape] = sort == EMPTY ? 0 : n;
        Arrays.fill(tapes[tape], 0);
        return 1;
    }

    public int item(int tape, int i, int v) {
        if (!isTape(tape)) {
            return NONE;
        }
        if (tapeSorts[tape] == EMPTY) {
            return NOTHING;
        }
        if (!hasStretch(tape, i, 1)) {
            return PLACE;
        }
        tapes[tape][i] = asItem(tapeSorts[tape], v);
        return 1;
    }

    public long read(int tape, int i) {
        return isTape(tape) && hasStretch(tape, i, 1) ? tapes[tape][i] : NO;
    }

    public int shift(int tape, int i, int other, int j, int n) {
        if (!isTape(tape) || !isTape(other)) {
            return NONE;
        }
        if (tapeSorts[tape] == EMPTY || tapeSorts[other] == EMPTY) {
            return NOTHING;
        }
        if (tapeSorts[tape] != tapeSorts[other]) {
            return CAST;
        }
        if (!hasStretch(tape, i, n) || !hasStretch(other, j, n)) {
            return PLACE;
        }
        System.arraycopy(tapes[tape], i, tapes[other], j, n);
        return n;
    }

    // ---- what numbers may be

    private static boolean within(int v, int least, int most) {
        return least <= v && v <= most;
    }

    private static boolean isDay(int day) {
        return within(day, 0, LAST_DAY);
    }

    private static boolean isMeter(int meter) {
        return within(meter, METER_LEAST, METER_MOST);
    }

    private static boolean isTown(int town) {
        return within(town, 0, TOWNS - 1);
    }

    private static boolean isHand(int hand) {
        return within(hand, 0, HANDS - 1);
    }

    private static boolean isTape(int tape) {
        return within(tape, 0, TAPES - 1);
    }

    private static boolean isNote(int pitch, int length, int tied) {
        return within(pitch, 0, PITCH_MOST) && within(length, 1, LENGTH_MOST) && within(tied, 0, 1)
                && !(pitch == 0 && tied == 1);
    }

    private boolean isAuthor(int author) {
        return 0 <= author && author < authorCount && author < AUTHORS;
    }

    private static int commonDivisor(int above, int below) {
        for (int d = below; d > 1; d--) {
            if (above % d == 0 && below % d == 0) {
                return d;
            }
        }
        return 1;
    }

    // ---- notes as one number: the way heard() tells them, so that a rest is below 1000 and a note that is none never is

    private static int noteCode(int pitch, int length, int tied) {
        return (pitch == 0 ? 0 : 1000 * (pitch + 100)) + 2 * length + tied;
    }

    private static boolean isRest(int code) {
        return code < 1000;
    }

    private static int pitchOf(int code) {
        return isRest(code) ? 0 : code / 1000 - 100;
    }

    private static int lengthOf(int code) {
        return code % 1000 / 2;
    }

    /** A note that is no rest stays none, even where its pitch becomes 0. */
    private static int shifted(int code, int shift) {
        return isRest(code) ? code : code + 1000 * shift;
    }

    private static int withPitch(int code, int pitch) {
        return 1000 * (pitch + 100) + code % 1000;
    }

    private static int tellNote(Bar bar, int i) {
        if (bar == null) {
            return NONE_SUCH;
        }
        if (i == -1) {
            return bar.size;
        }
        return bar.hasNote(i) ? bar.notes[i] : NONE_SUCH;
    }

    private static int repitched(Bar bar, int i, int pitch, int most) {
        if (!within(pitch, 1, most)) {
            return BAD;
        }
        if (!bar.hasNote(i) || isRest(bar.notes[i])) {
            return STATE;
        }
        int was = pitchOf(bar.notes[i]);
        bar.notes[i] = withPitch(bar.notes[i], pitch);
        return was;
    }

    // ---- things by their numbers

    private int keep(Thing made) {
        if (thingCount >= THINGS) {
            return FULL;
        }
        things[thingCount] = made;
        thingCount++;
        return made.number;
    }

    private Thing thingAt(int number) {
        return 0 <= number && number < thingCount && number < THINGS ? things[number] : null;
    }

    /** What a call answers that wanted a thing of a kind, and there is none of that kind with this number. */
    private int lacking(int number) {
        return thingAt(number) == null ? NONE : CAST;
    }

    private Score scoreAt(int number) {
        return thingAt(number) instanceof Score s ? s : null;
    }

    private Part partAt(int number) {
        return thingAt(number) instanceof Part p ? p : null;
    }

    private Part setAt(int number) {
        Part p = partAt(number);
        return p != null && p.kind == SET ? p : null;
    }

    private Plate plateAt(int number) {
        return thingAt(number) instanceof Plate p ? p : null;
    }

    private Edition editionAt(int number) {
        return thingAt(number) instanceof Edition e ? e : null;
    }

    private Erratum erratumAt(int number) {
        return thingAt(number) instanceof Erratum r ? r : null;
    }

    // ---- tapes: a row that holds nothing has the size 0

    private boolean hasStretch(int tape, long from, long n) {
        return isTape(tape) && from >= 0 && n >= 0 && from + n <= tapeSizes[tape];
    }

    private static int asItem(int sort, int v) {
        switch (sort) {
            case BYTES:
                return (byte) v;
            case SHORTS:
                return (short) v;
            case BOOLEANS:
                return v == 0 ? 0 : 1;
            default:
                return v;
        }
    }

    private int takeFromTape(Score s, int voice, int tape, long place) {
        if (!hasStretch(tape, place, 1)) {
            return TORN;
        }
        int v = tapes[tape][(int) place];
        int pitch = v / 100;
        int length = v % 100 / 2;
        int tied = v & 1;
        if (!isNote(pitch, length, tied)) {
            return NO_NOTE;
        }
        int refusal = s.takeNote(voice, noteCode(pitch, length, tied));
        if (refusal == FULL) {
            return NO_ROOM;
        }
        return refusal == STATE ? NO_NOTE : CAME;
    }

    // ---- errata, the tree

    private static int placeInEdition(int voice, int bar, int i) {
        return (voice * BARS + bar) * NOTES + i;
    }

    /** A note of an edition when the errata with lower numbers than this one are done; NONE_SUCH: no such note. */
    private int amendedNote(Edition e, int voice, int bar, int i, int before) {
        int code = tellNote(e.barOf(voice, bar), i);
        if (code == NONE_SUCH || isRest(code)) {
            return code;
        }
        int place = placeInEdition(voice, bar, i);
        for (int k = 0; k < before && k < thingCount; k++) {
            Erratum r = erratumAt(k);
            if (r != null && r.edition == e && r.place == place && pitchOf(code) == r.from) {
                code = withPitch(code, r.to);
            }
        }
        return code;
    }

    private void growTree(Score score) {
        Edition latest = null;
        for (int k = 0; k < thingCount; k++) {
            Edition e = editionAt(k);
            if (e != null && e.score == score) {
                e.inTree = latest == null;
                e.hangsOn = NONE;
                latest = e.inTree ? e : latest;
            }
        }
        for (int round = 0; round < thingCount && latest != null; round++) {
            for (int k = 0; k < thingCount; k++) {
                Edition e = editionAt(k);
                if (e != null && e.score == score && !e.inTree) {
                    e.mayHangOn(latest);
                }
            }
            latest = nearestToTree(score);
            if (latest != null) {
                latest.inTree = true;
            }
        }
    }

    private Edition nearestToTree(Score score) {
        Edition nearest = null;
        for (int k = 0; k < thingCount; k++) {
            Edition e = editionAt(k);
            if (e != null && e.score == score && !e.inTree && (nearest == null || e.apart < nearest.apart)) {
                nearest = e;
            }
        }
        return nearest;
    }

    // ---- contracts and rights

    private Contract contractAt(int number) {
        return 0 <= number && number < contractCount && number < CONTRACTS ? contracts[number] : null;
    }

    private int contractNumber(int land, int day) {
        int best = NONE;
        int bestDay = -1;
        for (int k = 0; k < contractCount; k++) {
            Contract c = contractAt(k);
            if (c != null && c.land == land && c.day <= day && c.day >= bestDay) {
                best = k;
                bestDay = c.day;
            }
        }
        return best;
    }

    private static int lifeBy(Contract law) {
        return law == null ? LIFE_UNTOLD : law.life;
    }

    /** LIVES, if the author lived on that day. */
    private int daysSinceDeath(int author, int day) {
        if (!isAuthor(author) || deaths[author] == LIVES || day < deaths[author]) {
            return LIVES;
        }
        return day - deaths[author];
    }

    private int wholeYearsSince(int author, int day) {
        return Math.max(0, daysSinceDeath(author, day)) / YEAR;
    }

    private boolean hasRight(int author, Contract law, int day) {
        int gone = daysSinceDeath(author, day);
        return gone == LIVES || gone < lifeBy(law) * YEAR;
    }

    // ---- acts

    private static boolean isUnder(int kind, int k) {
        int up = kind;
        for (int step = 0; step <= ERRATUM && up > THING && up != k; step++) {
            up = KIND_ABOVE[up];
        }
        return up == k;
    }

    private static int ownBody(int kind, int act) {
        int at = kind * 3 + act;
        return 0 <= at && at < BODIES.length ? BODIES[at] : 0;
    }

    private static int kindAbove(int kind) {
        return within(kind, SCORE, ERRATUM) ? KIND_ABOVE[kind] : THING;
    }

    /** Runs the body that the kind, or the next one above it that has one, has for the act. */
    private int runBody(Thing t, int act, int kind, int x, int depth) {
        if (depth > DEEPEST_BODY) {
            return 0;
        }
        int owner = kind;
        for (int step = 0; step <= ERRATUM && owner > THING && ownBody(owner, act) == 0; step++) {
            owner = kindAbove(owner);
        }
        int body = ownBody(owner, act);
        if (bodyCount < TRACE_KEPT) {
            bodiesRun[bodyCount] = body;
        }
        bodyCount++;
        return answerOf(body, t, kindAbove(owner), x, depth + 1);
    }

    /** What the body answers: its own kind's acts are the thing's, those of super are the kind's above the body's. */
    private int answerOf(int body, Thing t, int above, int x, int depth) {
        switch (body) {
            case 10:
                return x + t.number;
            case 11:
                return runBody(t, HOLDS, t.kind, x, depth) ^ 3;
            case 12:
                return runBody(t, TURNS, t.kind, x, depth) - x;
            case 20:
                return runBody(t, HOLDS, above, x, depth) * 2;
            case 30:
                return runBody(t, TURNS, above, x, depth) + runBody(t, HOLDS, t.kind, 1, depth);
            case 40:
                return runBody(t, EARNS, above, x, depth) + 7;
            case 50:
                return runBody(t, HOLDS, above, x + 4, depth);
            case 60:
                return -runBody(t, TURNS, above, x, depth);
            case 61:
                return runBody(t, HOLDS, above, x, depth) + 1;
            case 70:
                return runBody(t, EARNS, above, x, depth) ^ runBody(t, HOLDS, t.kind, x, depth);
            case 80:
                return runBody(t, HOLDS, t.kind, x, depth) - runBody(t, TURNS, above, x, depth);
            default:
                return 0;
        }
    }

    /** A row of notes; in a score they come one by one, on plates and in editions they stand as cut. */
    private static final class Bar {
        final int[] notes = new int[NOTES];
        int size = 0;
        int filled = 0;

        boolean hasNote(int i) {
            return 0 <= i && i < size && i < NOTES;
        }

        void addNote(int code) {
            if (size < NOTES) {
                notes[size] = code;
                size++;
                filled += lengthOf(code);
            }
        }

        /** Adds a note as a reader sees it: it melts into the one before where that is the same sound going on. */
        void joinNote(int code) {
            int last = size - 1;
            if (hasNote(last) && notes[last] / 1000 == code / 1000 && (isRest(code) || (notes[last] & 1) == 1)) {
                notes[last] += code % 1000 - (notes[last] & 1);
                filled += lengthOf(code);
            } else {
                addNote(code);
            }
        }

        void clearNotes() {
            size = 0;
            filled = 0;
        }

        void copyShifted(Bar from, int shift) {
            clearNotes();
            for (int i = 0; i < from.size; i++) {
                addNote(shifted(from.notes[i], shift));
            }
        }

        boolean sameNotes(Bar other) {
            boolean same = size == other.size;
            for (int i = 0; i < size && same; i++) {
                same = notes[i] == other.notes[i];
            }
            return same;
        }

        boolean restsFirst() {
            return hasNote(0) && isRest(notes[0]);
        }

        boolean restsLast() {
            return hasNote(size - 1) && isRest(notes[size - 1]);
        }
    }

    /** What of() tells of a thing behind its kind stands in its class. */
    private abstract static class Thing {
        final int kind;
        final int number;

        Thing(int kind, int number) {
            this.kind = kind;
            this.number = number;
        }

        abstract int scoreNumber();

        abstract int second();

        abstract int third();
    }

    /** A score or a derived; the author of a derived is its arranger. */
    private static final class Score extends Thing {
        final Score root;
        final int author;
        final int meter;
        final int voices;
        final Bar[] bars = new Bar[VOICES * BARS];
        final int[] begun = new int[VOICES];

        Score(int number, Score root, int author, int meter, int voices) {
            super(root == null ? SCORE : DERIVED, number);
            this.root = root;
            this.author = author;
            this.meter = meter;
            this.voices = voices;
        }

        Score rootScore() {
            return root == null ? this : root;
        }

        int scoreNumber() {
            return rootScore().number;
        }

        int second() {
            return meter;
        }

        int third() {
            return voices;
        }

        boolean hasVoice(int voice) {
            return 0 <= voice && voice < voices && voice < VOICES;
        }

        private Bar begunBar(int voice, int bar) {
            return hasVoice(voice) && 0 <= bar && bar < BARS && bar < begun[voice] ? bars[voice * BARS + bar] : null;
        }

        /** The bar to which the next note comes, null if that begins a new one. */
        private Bar openBar(int voice) {
            Bar last = hasVoice(voice) ? begunBar(voice, begun[voice] - 1) : null;
            return last == null || last.filled == meter ? null : last;
        }

        int wholeBars(int voice) {
            if (!hasVoice(voice)) {
                return 0;
            }
            return openBar(voice) == null ? begun[voice] : begun[voice] - 1;
        }

        Bar wholeBar(int voice, int bar) {
            Bar begunOne = begunBar(voice, bar);
            return begunOne != null && begunOne.filled == meter ? begunOne : null;
        }

        /** 0; STATE: the note may not come; FULL: there is no room for a bar. */
        int takeNote(int voice, int code) {
            if (!hasVoice(voice)) {
                return STATE;
            }
            Bar open = openBar(voice);
            int missing = open == null ? meter : meter - open.filled;
            int length = lengthOf(code);
            if (length > missing || open != null && open.size >= NOTES - 1 && length < missing) {
                return STATE;
            }
            if (open == null) {
                if (begun[voice] >= BARS) {
                    return FULL;
                }
                open = new Bar();
                bars[voice * BARS + begun[voice]] = open;
                begun[voice]++;
            }
            open.addNote(code);
            return 0;
        }
    }

    /** A part or a set; a part's town is never looked at. */
    private static final class Part extends Thing {
        final Score score;
        final int voice;
        final int shift;
        int town = 0;
        private final Bar asRead = new Bar();

        Part(int kind, int number, Score score, int voice, int shift) {
            super(kind, number);
            this.score = score;
            this.voice = voice;
            this.shift = shift;
        }

        int scoreNumber() {
            return score.number;
        }

        int second() {
            return voice;
        }

        int third() {
            return shift;
        }

        int barCount() {
            return score.wholeBars(voice);
        }

        /** One row serves for all readings of this part: what is to stay is copied from it. */
        Bar barAsRead(int bar) {
            Bar whole = score.wholeBar(voice, bar);
            if (whole == null) {
                return null;
            }
            asRead.clearNotes();
            for (int i = 0; i < whole.size; i++) {
                asRead.joinNote(shifted(whole.notes[i], shift));
            }
            return asRead;
        }
    }

    private static final class Plate extends Thing {
        final Part part;
        final int first;
        final Bar[] bars;
        final int[] marks = new int[HANDS];

        Plate(int number, Part part, int a, int b) {
            super(PLATE, number);
            this.part = part;
            this.first = a;
            this.bars = new Bar[Math.max(0, Math.min(b - a + 1, PLATE_BARS))];
            for (int k = 0; k < bars.length; k++) {
                bars[k] = new Bar();
                Bar now = part.barAsRead(a + k);
                if (now != null) {
                    bars[k].copyShifted(now, 0);
                }
            }
            Arrays.fill(marks, NONE);
        }

        int scoreNumber() {
            return part.score.number;
        }

        int second() {
            return part.voice;
        }

        int third() {
            return first;
        }

        Bar cutBar(int bar) {
            return bar >= first && bar - first < bars.length ? bars[bar - first] : null;
        }

        /** As bits, the first bar of the plate is bit 0. */
        int unlikeBars() {
            int bits = 0;
            for (int k = 0; k < bars.length; k++) {
                Bar now = part.barAsRead(first + k);
                if (now == null || bars[k] == null || !now.sameNotes(bars[k])) {
                    bits |= 1 << k;
                }
            }
            return bits;
        }
    }

    private static final class Edition extends Thing {
        final Score score;
        final int plates;
        int errata = 0;
        final Bar[] bars = new Bar[VOICES * BARS];
        /** The distance to each edition with a lower number, NONE as long as nobody asked: editions never change. */
        private final int[] distances;
        private int[] rowBefore = new int[BARS + 1];
        private int[] row = new int[BARS + 1];
        boolean inTree = false;
        int hangsOn = NONE;
        int apart = 0;

        Edition(int number, Score score, int plates) {
            super(EDITION, number);
            this.score = score;
            this.plates = plates;
            this.distances = new int[Math.max(0, number)];
            Arrays.fill(distances, NONE);
        }

        int scoreNumber() {
            return score.number;
        }

        int second() {
            return plates;
        }

        int third() {
            return errata;
        }

        Bar barOf(int voice, int bar) {
            return within(voice, 0, VOICES - 1) && within(bar, 0, BARS - 1) ? bars[voice * BARS + bar] : null;
        }

        void takePlate(Plate plate) {
            if (plate == null || !within(plate.part.voice, 0, VOICES - 1)) {
                return;
            }
            for (int k = 0; k < plate.bars.length; k++) {
                int at = plate.part.voice * BARS + plate.first + k;
                if (plate.bars[k] != null && 0 <= at && at < bars.length) {
                    if (bars[at] == null) {
                        bars[at] = new Bar();
                    }
                    bars[at].copyShifted(plate.bars[k], -plate.part.shift);
                }
            }
        }

        int changesTo(Edition other, int voice) {
            row[0] = 0;
            for (int j = 0; j < BARS; j++) {
                row[j + 1] = row[j] + (other.barOf(voice, j) == null ? 0 : 1);
            }
            for (int i = 0; i < BARS; i++) {
                Bar mine = barOf(voice, i);
                if (mine != null) {
                    int[] free = rowBefore;
                    rowBefore = row;
                    row = free;
                    fillRow(mine, other, voice);
                }
            }
            return row[BARS];
        }

        private void fillRow(Bar mine, Edition other, int voice) {
            row[0] = rowBefore[0] + 1;
            for (int j = 0; j < BARS; j++) {
                Bar theirs = other.barOf(voice, j);
                if (theirs == null) {
                    row[j + 1] = row[j];
                } else {
                    int comeOrGo = Math.min(row[j], rowBefore[j + 1]) + 1;
                    row[j + 1] = Math.min(comeOrGo, rowBefore[j] + (mine.sameNotes(theirs) ? 0 : 1));
                }
            }
        }

        int distanceTo(Edition other) {
            Edition later = other.number > number ? other : this;
            Edition earlier = other.number > number ? this : other;
            if (earlier.number < 0 || earlier.number >= later.distances.length) {
                return 0;
            }
            if (later.distances[earlier.number] == NONE) {
                int all = 0;
                for (int voice = 0; voice < VOICES; voice++) {
                    all += later.changesTo(earlier, voice);
                }
                later.distances[earlier.number] = all;
            }
            return later.distances[earlier.number];
        }

        void mayHangOn(Edition branch) {
            int way = distanceTo(branch);
            if (hangsOn == NONE || way < apart || way == apart && branch.number < hangsOn) {
                hangsOn = branch.number;
                apart = way;
            }
        }
    }

    private static final class Erratum extends Thing {
        final Edition edition;
        final int place;
        final int from;
        final int to;

        Erratum(int number, Edition edition, int place, int from, int to) {
            super(ERRATUM, number);
            this.edition = edition;
            this.place = place;
            this.from = from;
            this.to = to;
        }

        int voice() {
            return place / (BARS * NOTES);
        }

        int bar() {
            return place / NOTES % BARS;
        }

        int noteIndex() {
            return place % NOTES;
        }

        int scoreNumber() {
            return edition.score.number;
        }

        int second() {
            return voice();
        }

        int third() {
            return bar();
        }
    }

    /** The best layout of a part, found from its last bar backwards: the best rest behind a line does not ask how it came there. */
    private static final class Layout {
        private int bars = 0;
        private final int[] widths = new int[BARS];
        private final boolean[] restsFirst = new boolean[BARS];
        private final boolean[] restsLast = new boolean[BARS];
        /** By the bar that begins a line and the line's place on its page. */
        private final int[] cost = new int[(BARS + 1) * PAGE_LINES];
        private final int[] taken = new int[(BARS + 1) * PAGE_LINES];

        void measure(Part part) {
            bars = Math.min(part.barCount(), BARS);
            for (int k = 0; k < bars; k++) {
                Bar bar = part.barAsRead(k);
                widths[k] = 2 + 3 * (bar == null ? 0 : bar.size);
                restsFirst[k] = bar != null && bar.restsFirst();
                restsLast[k] = bar != null && bar.restsLast();
            }
        }

        boolean fits(int width) {
            boolean fits = bars > 0;
            for (int k = 0; k < bars; k++) {
                fits = fits && widths[k] <= width;
            }
            return fits;
        }

        void fill(int width, int lines) {
            for (int begin = bars - 1; begin >= 0; begin--) {
                for (int place = 0; place < lines && place < PAGE_LINES; place++) {
                    fillLine(begin, place, width, lines);
                }
            }
        }

        /** Longer lines are tried later and win where the cost is the same. */
        private void fillLine(int begin, int place, int width, int lines) {
            int at = begin * PAGE_LINES + place;
            int used = 0;
            taken[at] = 0;
            for (int end = begin + 1; end <= bars && used + widths[end - 1] <= width; end++) {
                used += widths[end - 1];
                int all = 0;
                if (end < bars) {
                    int turn = place + 1 == lines && !restsLast[end - 1] && !restsFirst[end] ? HARD_TURN : 0;
                    all = (width - used) * (width - used) + turn + cost[end * PAGE_LINES + placeBehind(place, lines)];
                }
                if (taken[at] == 0 || all <= cost[at]) {
                    cost[at] = all;
                    taken[at] = end - begin;
                }
            }
        }

        private static int placeBehind(int place, int lines) {
            return place + 1 >= lines ? 0 : place + 1;
        }

        int leastCost() {
            return cost[0];
        }

        int lineCount(int lines) {
            int count = 0;
            int place = 0;
            int bar = 0;
            while (count < BARS && bar < bars) {
                bar += taken[bar * PAGE_LINES + place];
                place = placeBehind(place, lines);
                count++;
            }
            return count;
        }

        int barsInLine(int line, int lines) {
            int place = 0;
            int bar = 0;
            for (int k = 0; k < line && k < BARS && bar < bars; k++) {
                bar += taken[bar * PAGE_LINES + place];
                place = placeBehind(place, lines);
            }
            return bar < bars ? taken[bar * PAGE_LINES + place] : NONE;
        }
    }

    /**
     * A contract keeps its text and reads it anew whenever it is asked: one reading serves to find the fault,
     * to learn life and least, and to weigh the conditions.
     */
    private static final class Contract {
        final int land;
        final int day;
        private final int[] text;
        int place = 0;
        private boolean faulty = false;
        int life = LIFE_UNTOLD;
        int least = LEAST_UNTOLD;
        int shares = 0;
        private boolean derived = false;
        private int years = 0;
        private int minutes = 0;
        private int thousandths = 0;
        private boolean anyHolds = false;

        Contract(int land, int day, int[] text) {
            this.land = land;
            this.day = day;
            this.text = text;
        }

        void asked(boolean ofDerived, int wholeYears, int lasting) {
            derived = ofDerived;
            years = wholeYears;
            minutes = lasting;
        }

        int shareOf(int payee, int act, int sum) {
            readAll(payee, act);
            int share = (int) ((long) sum * thousandths / 1000);
            return anyHolds ? Math.max(share, least) : 0;
        }

        /** Reads the text, adding up what holds for a payee and an act; false: it has a fault, at the place then. */
        boolean readAll(int payee, int act) {
            place = 0;
            faulty = false;
            shares = 0;
            thousandths = 0;
            anyHolds = false;
            boolean more = true;
            for (int clause = 1; clause <= CLAUSES && more; clause++) {
                readClause(payee, act);
                more = clause < CLAUSES && sees(';');
                if (more) {
                    place++;
                }
            }
            return !faulty && place == text.length;
        }

        private void readClause(int payee, int act) {
            if (sees('l')) {
                readTerm();
                return;
            }
            int whose = pick("ar");
            int ofAct = pick("shp");
            skip(" ");
            int number = readNumber();
            boolean holds = true;
            if (sees(' ')) {
                skip(" if ");
                holds = condition(0);
            }
            shares++;
            if (whose == payee && ofAct == act && holds && !faulty) {
                thousandths += number;
                anyHolds = true;
            }
        }

        private void readTerm() {
            skip("l");
            boolean isLife = pick("ie") == 0;
            skip(isLife ? "fe " : "ast ");
            int number = readNumber();
            if (isLife) {
                life = number;
            } else {
                least = number;
            }
        }

        private boolean sees(char sign) {
            return !faulty && place < text.length && text[place] == sign;
        }

        /** Which of the signs stands here, going behind it; NONE and a fault, if it is none of them. */
        private int pick(String signs) {
            int found = faulty || place >= text.length ? NONE : signs.indexOf((char) text[place]);
            if (found == NONE) {
                faulty = true;
            } else {
                place++;
            }
            return found;
        }

        private void skip(String word) {
            for (int k = 0; k < word.length(); k++) {
                if (sees(word.charAt(k))) {
                    place++;
                } else {
                    faulty = true;
                }
            }
        }

        private int readNumber() {
            int number = pick("0123456789");
            for (int digit = 1; digit < DIGITS && !faulty && place < text.length; digit++) {
                int value = text[place] - '0';
                if (value < 0 || value > 9) {
                    return number;
                }
                number = number * 10 + value;
                place++;
            }
            return number;
        }

        /** & binds closer than |: what stands between two | holds if all of it holds. */
        private boolean condition(int depth) {
            boolean any = false;
            boolean all = true;
            for (int k = 0; k < TEXT_BYTES; k++) {
                boolean holds = single(depth);
                all = all && holds;
                if (!sees('&')) {
                    any = any || all;
                    all = true;
                    if (!sees('|')) {
                        return any;
                    }
                }
                place++;
            }
            return any;
        }

        private boolean single(int depth) {
            if (depth >= WITHIN_MOST && (sees('!') || sees('('))) {
                faulty = true;
            }
            int what = pick("xym!(");
            if (what == 0) {
                return derived;
            }
            if (what > 2) {
                return nested(what == 3, depth + 1);
            }
            boolean below = pick("<>") == 0;
            int number = readNumber();
            int measured = what == 1 ? years : minutes;
            return below ? measured < number : measured > number;
        }

        private boolean nested(boolean denied, int depth) {
            if (denied) {
                return !single(depth);
            }
            boolean holds = condition(depth);
            pick(")");
            return holds;
        }
    }

    /** The asks and ways; the best set of asks is found from the one with the latest first day backwards. */
    private static final class Tour {
        private final int[] ways = new int[TOWNS * TOWNS];
        int count = 0;
        private final int[] towns = new int[ASKS];
        private final int[] froms = new int[ASKS];
        private final int[] tos = new int[ASKS];
        private final int[] worths = new int[ASKS];
        /** The asks by their first days. */
        private final int[] order = new int[ASKS];
        /** Of the best set that begins with an ask. */
        private final int[] bestWorth = new int[ASKS];
        private final int[] bestSize = new int[ASKS];
        private final int[] bestBits = new int[ASKS];

        Tour() {
            Arrays.fill(ways, 1);
            for (int town = 0; town < TOWNS; town++) {
                ways[town * TOWNS + town] = 0;
            }
        }

        private int wayBetween(int a, int b) {
            return isTown(a) && isTown(b) ? ways[a * TOWNS + b] : 0;
        }

        int changeWay(int a, int b, int days) {
            int was = wayBetween(a, b);
            if (isTown(a) && isTown(b)) {
                ways[a * TOWNS + b] = days;
                ways[b * TOWNS + a] = days;
            }
            return was;
        }

        int addAsk(int town, int from, int to, int worth) {
            if (count >= ASKS) {
                return FULL;
            }
            towns[count] = town;
            froms[count] = from;
            tos[count] = to;
            worths[count] = worth;
            int at = count;
            while (at > 0 && froms[order[at - 1]] > from) {
                order[at] = order[at - 1];
                at--;
            }
            order[at] = count;
            count++;
            return count - 1;
        }

        /** With which ask the best set begins, NONE if it is the empty one. */
        int bestFirst(int town, int day) {
            for (int k = count - 1; k >= 0; k--) {
                int ask = order[k];
                int next = bestBehind(k, towns[ask], tos[ask] + 1);
                bestWorth[ask] = worths[ask] + worthFrom(next);
                bestSize[ask] = 1 + (next == NONE ? 0 : bestSize[next]);
                bestBits[ask] = 1 << ask | bitsFrom(next);
            }
            return bestBehind(-1, town, day);
        }

        /** Just asks behind place k of the order: the others begin too early, and are not reckoned yet. */
        private int bestBehind(int k, int town, int day) {
            int best = NONE;
            for (int later = k + 1; later < count; later++) {
                int ask = order[later];
                if (day + wayBetween(town, towns[ask]) <= froms[ask] && isBetter(ask, best)) {
                    best = ask;
                }
            }
            return best;
        }

        private boolean isBetter(int ask, int best) {
            if (best == NONE || bestWorth[ask] != bestWorth[best]) {
                return bestWorth[ask] > worthFrom(best);
            }
            if (bestSize[ask] != bestSize[best]) {
                return bestSize[ask] < bestSize[best];
            }
            return bestBits[ask] < bestBits[best];
        }

        int worthFrom(int ask) {
            return within(ask, 0, ASKS - 1) ? bestWorth[ask] : 0;
        }

        int bitsFrom(int ask) {
            return within(ask, 0, ASKS - 1) ? bestBits[ask] : 0;
        }
    }

    /** The months; the best prints are found from the last month backwards. */
    private static final class PrintPlan {
        private static final int UNDOABLE = -1;

        int setup = 0;
        int hold = 0;
        int most = PRINT_MOST;
        int months = 0;
        final int[] asked = new int[MONTHS];
        /** Of the best prints for a month and all behind it, one of them at its begin; behind the last month: of none. */
        final int[] cost = new int[MONTHS + 1];
        private final int[] prints = new int[MONTHS + 1];
        final int[] bits = new int[MONTHS + 1];

        boolean asksTooMuch() {
            boolean tooMuch = false;
            for (int k = 0; k < months; k++) {
                tooMuch = tooMuch || asked[k] > most;
            }
            return tooMuch;
        }

        /** The month of the first print (how many months there are: nothing is printed). */
        int bestFirst() {
            cost[months] = 0;
            prints[months] = 0;
            bits[months] = 0;
            for (int k = months - 1; k >= 0; k--) {
                printAt(k);
            }
            int best = 0;
            for (int k = 1; k <= months && asked[k - 1] == 0; k++) {
                if (cost[best] == UNDOABLE || cost[k] != UNDOABLE && isBetter(cost[k], prints[k], bits[k], best)) {
                    best = k;
                }
            }
            return best;
        }

        private void printAt(int k) {
            cost[k] = UNDOABLE;
            int copies = 0;
            int held = 0;
            for (int next = k + 1; next <= months; next++) {
                copies += asked[next - 1];
                held += asked[next - 1] * (next - 1 - k) * hold;
                if (copies > 0 && copies <= most && cost[next] != UNDOABLE) {
                    int all = setup + held + cost[next];
                    int withBits = 1 << k | bits[next];
                    if (cost[k] == UNDOABLE || isBetter(all, prints[next] + 1, withBits, k)) {
                        cost[k] = all;
                        prints[k] = prints[next] + 1;
                        bits[k] = withBits;
                    }
                }
            }
        }

        private boolean isBetter(int otherCost, int otherPrints, int otherBits, int k) {
            if (otherCost != cost[k]) {
                return otherCost < cost[k];
            }
            if (otherPrints != prints[k]) {
                return otherPrints < prints[k];
            }
            return otherBits < bits[k];
        }
    }
}
