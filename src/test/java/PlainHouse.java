import java.util.ArrayList;
import java.util.Arrays;
import java.util.HashMap;
import java.util.LinkedHashSet;
import java.util.List;
import java.util.Map;
import java.util.Set;
import java.util.TreeMap;
import java.util.TreeSet;

/**
 * The document a second time, sentence by sentence, in the slowest and plainest way and with all of Java's library:
 * ModelTest compares the program with it. It shares nothing with the program, so a slip would have to be made twice.
 */
final class PlainHouse {
    private static final int NONE = -1, BAD = -2, STATE = -3, FULL = -4, NOTHING = -11, CAST = -12, PLACE = -13, SIZE = -14;
    private static final long NO = Long.MIN_VALUE;
    private static final String[] KINDS = {"THING", "SCORE", "PART", "PLATE", "EDITION", "SET", "DERIVED", "ERRATUM"};
    private static final Map<String, String> ABOVE = Map.of("SCORE", "THING", "PART", "SCORE", "PLATE", "THING",
        "EDITION", "THING", "SET", "PART", "DERIVED", "SCORE", "ERRATUM", "THING");
    private static final Map<String, Integer> BODIES = Map.ofEntries(
        Map.entry("THING holds", 10), Map.entry("THING turns", 11), Map.entry("THING earns", 12), Map.entry("SCORE holds", 20),
        Map.entry("PART turns", 30), Map.entry("PLATE earns", 40), Map.entry("EDITION holds", 50), Map.entry("SET turns", 60),
        Map.entry("SET holds", 61), Map.entry("DERIVED earns", 70), Map.entry("ERRATUM turns", 80));

    private record Note(boolean rest, int pitch, int length, boolean tied) {
        Note at(int newPitch) {
            return new Note(rest, newPitch, length, tied);
        }

        Note shifted(int shift) {
            return rest ? this : at(pitch + shift);
        }

        int told() {
            return (rest ? 0 : 1000 * (pitch + 100)) + 2 * length + (tied ? 1 : 0);
        }
    }

    private static final class Thing {
        String kind;
        int number;
        // scores, deriveds
        Thing from;
        int author, meter, voices;
        List<List<List<Note>>> came = new ArrayList<>();
        // what is of a score, and where
        Thing score, part, edition;
        int voice, shift, town, first, last, plates, bar, i, before, after;
        List<List<Note>> cut = new ArrayList<>();
        Map<Integer, Integer> marked = new HashMap<>();
        Map<Integer, TreeMap<Integer, List<Note>>> printed = new HashMap<>();

        Thing(String kind) {
            this.kind = kind;
        }

        boolean is(String wanted) {
            for (String k = kind; k != null; k = ABOVE.get(k)) {
                if (k.equals(wanted)) {
                    return !wanted.equals("SCORE") || kind.equals("SCORE") || kind.equals("DERIVED");
                }
            }
            return false;
        }

        Thing root() {
            return from == null ? this : from.from == null ? from : from.root();
        }

        List<List<Note>> whole(int ofVoice) {
            List<List<Note>> bars = new ArrayList<>(came.get(ofVoice));
            bars.removeIf(bar -> lengths(bar) != meter);
            return bars;
        }
    }

    private record Contract(int land, int day, String text) {
        int last(String word, int without) {
            int told = without;
            for (String clause : text.split(";")) {
                told = clause.startsWith(word) ? Integer.parseInt(clause.substring(word.length() + 1)) : told;
            }
            return told;
        }
    }

    private record Ask(int town, int from, int to, int worth) {
    }

    private int today = 0;
    private final List<Integer> deaths = new ArrayList<>();
    private final List<Thing> things = new ArrayList<>();
    private Integer ended = null;
    private final List<Thing> press = new ArrayList<>();
    private String text = "";
    private final List<Contract> contracts = new ArrayList<>();
    private final int[][] ways = new int[6][6];
    private final List<Ask> asks = new ArrayList<>();
    private int setup = 0, hold = 0, most = 9999;
    private final List<Integer> months = new ArrayList<>();
    private final List<Integer> trace = new ArrayList<>();
    private final int[] sorts = {-1, -1, -1, -1, -1, -1};
    private final int[][] rows = new int[6][0];

    PlainHouse() {
        for (int a = 0; a < 6; a++) {
            for (int b = 0; b < 6; b++) {
                ways[a][b] = a == b ? 0 : 1;
            }
        }
    }

    // ---- helpers

    private static boolean in(int v, int least, int most) {
        return v >= least && v <= most;
    }

    private static int lengths(List<Note> bar) {
        return bar.stream().mapToInt(Note::length).sum();
    }

    private Thing thing(int number) {
        return in(number, 0, things.size() - 1) ? things.get(number) : null;
    }

    private boolean isAuthor(int author) {
        return in(author, 0, deaths.size() - 1);
    }

    private int keep(Thing made) {
        made.number = things.size();
        things.add(made);
        return made.number;
    }

    /** 0 if the thing is there and of the kind. */
    private int wanted(int number, String kind) {
        return thing(number) == null ? NONE : thing(number).is(kind) ? 0 : CAST;
    }

    private int wantedVoice(int number, int voice) {
        int refused = wanted(number, "SCORE");
        return refused != 0 ? refused : in(voice, 0, thing(number).voices - 1) ? 0 : NONE;
    }

    // ---- authors, scores

    int pass(int n) {
        if (n < 1 || n > 400 || today + n > 9999) {
            return BAD;
        }
        return today = today + n;
    }

    int author() {
        if (deaths.size() == 12) {
            return FULL;
        }
        deaths.add(null);
        return deaths.size() - 1;
    }

    int died(int author, int day) {
        if (!isAuthor(author)) {
            return NONE;
        }
        if (day < 0 || day > today) {
            return BAD;
        }
        if (deaths.get(author) != null) {
            return STATE;
        }
        deaths.set(author, day);
        return 1;
    }

    int score(int author, int meter, int voices) {
        if (!isAuthor(author)) {
            return NONE;
        }
        return makeScore(null, author, meter, voices);
    }

    private int makeScore(Thing from, int author, int meter, int voices) {
        if (!in(meter, 2, 12) || !in(voices, 1, 4)) {
            return BAD;
        }
        if (things.size() == 60) {
            return FULL;
        }
        Thing made = new Thing(from == null ? "SCORE" : "DERIVED");
        made.from = from;
        made.author = author;
        made.meter = meter;
        made.voices = voices;
        for (int v = 0; v < voices; v++) {
            made.came.add(new ArrayList<>());
        }
        return keep(made);
    }

    int derive(int score, int author, int meter, int voices) {
        if (thing(score) == null || !isAuthor(author)) {
            return NONE;
        }
        return wanted(score, "SCORE") != 0 ? CAST : makeScore(thing(score), author, meter, voices);
    }

    /** 0: it came. */
    private int come(Thing score, int voice, int pitch, int length, int tied) {
        List<List<Note>> bars = score.came.get(voice);
        boolean open = !bars.isEmpty() && lengths(bars.get(bars.size() - 1)) != score.meter;
        List<Note> bar = open ? bars.get(bars.size() - 1) : new ArrayList<>();
        int left = score.meter - lengths(bar);
        if (length > left || bar.size() == 7 && length != left) {
            return STATE;
        }
        if (!open && bars.size() == 20) {
            return FULL;
        }
        bar.add(new Note(pitch == 0, pitch, length, tied == 1));
        if (!open) {
            bars.add(bar);
        }
        return 0;
    }

    private static boolean isNote(int pitch, int length, int tied) {
        return in(pitch, 0, 60) && in(length, 1, 12) && in(tied, 0, 1) && (pitch != 0 || tied == 0);
    }

    int note(int score, int voice, int pitch, int length, int tied) {
        int refused = wantedVoice(score, voice);
        if (refused != 0) {
            return refused;
        }
        if (!isNote(pitch, length, tied)) {
            return BAD;
        }
        refused = come(thing(score), voice, pitch, length, tied);
        return refused != 0 ? refused : thing(score).whole(voice).size();
    }

    int alter(int score, int voice, int bar, int i, int pitch) {
        int refused = wantedVoice(score, voice);
        if (refused != 0) {
            return refused;
        }
        List<List<Note>> whole = thing(score).whole(voice);
        return in(bar, 0, whole.size() - 1) ? repitch(whole.get(bar), i, pitch, 60) : NONE;
    }

    private static int repitch(List<Note> bar, int i, int pitch, int highest) {
        if (!in(i, 0, bar.size() - 1)) {
            return NONE;
        }
        if (!in(pitch, 1, highest)) {
            return BAD;
        }
        Note was = bar.get(i);
        if (was.rest) {
            return STATE;
        }
        bar.set(i, was.at(pitch));
        return was.pitch;
    }

    int music(int score, int voice, int tape, int i, int n) {
        if (thing(score) == null || !in(tape, 0, 5)) {
            return NONE;
        }
        int refused = wantedVoice(score, voice);
        if (refused != 0) {
            return refused;
        }
        if (!in(n, 1, 60)) {
            return BAD;
        }
        if (sorts[tape] != -1 && sorts[tape] != 1) {
            return CAST;
        }
        for (int came = 0; came < n; came++) {
            long place = (long) i + came;
            if (sorts[tape] == -1 || place < 0 || place >= rows[tape].length) {
                ended = 1;
                return came;
            }
            int v = rows[tape][(int) place];
            int pitch = v / 100;
            int length = v % 100 / 2;
            int tied = v - pitch * 100 - length * 2;
            if (v < 0 || !isNote(pitch, length, tied)) {
                ended = 2;
                return came;
            }
            refused = come(thing(score), voice, pitch, length, tied);
            if (refused != 0) {
                ended = refused == STATE ? 2 : 3;
                return came;
            }
        }
        ended = 0;
        return n;
    }

    int ended() {
        return ended == null ? STATE : ended;
    }

    int of(int thing, int what) {
        Thing t = thing(thing);
        if (t == null || !in(what, 0, 3)) {
            return -100;
        }
        if (what == 0) {
            return Arrays.asList(KINDS).indexOf(t.kind);
        }
        switch (t.kind) {
            case "SCORE":
            case "DERIVED":
                return what == 1 ? t.root().number : what == 2 ? t.meter : t.voices;
            case "PART":
            case "SET":
                return what == 1 ? t.score.number : what == 2 ? t.voice : t.shift;
            case "PLATE":
                return what == 1 ? t.part.score.number : what == 2 ? t.part.voice : t.first;
            case "EDITION":
                return what == 1 ? t.score.number : what == 2 ? t.plates : errataOf(t).size();
            default:
                return what == 1 ? t.edition.score.number : what == 2 ? t.voice : t.bar;
        }
    }

    private List<Thing> errataOf(Thing edition) {
        return things.stream().filter(t -> t.kind.equals("ERRATUM") && t.edition == edition).toList();
    }

    int bars(int score, int voice) {
        int refused = wantedVoice(score, voice);
        return refused != 0 ? refused : thing(score).whole(voice).size();
    }

    // ---- parts, plates

    int part(int score, int voice, int shift) {
        int refused = wantedVoice(score, voice);
        if (refused != 0) {
            return refused;
        }
        if (!in(shift, -12, 12)) {
            return BAD;
        }
        return things.size() == 60 ? FULL : keep(partOf(thing(score), voice, shift, "PART"));
    }

    private static Thing partOf(Thing score, int voice, int shift, String kind) {
        Thing made = new Thing(kind);
        made.score = score;
        made.voice = voice;
        made.shift = shift;
        return made;
    }

    /** From the back: each note is joined with what its neighbour has become. */
    private static List<Note> read(List<Note> bar, int shift) {
        if (bar.isEmpty()) {
            return new ArrayList<>();
        }
        List<Note> behind = read(bar.subList(1, bar.size()), shift);
        Note one = bar.get(0).shifted(shift);
        if (!behind.isEmpty()) {
            Note next = behind.get(0);
            boolean rests = one.rest && next.rest;
            boolean sounds = one.tied && !next.rest && one.pitch == next.pitch;
            if (rests || sounds) {
                behind.set(0, new Note(one.rest, one.pitch, one.length + next.length, next.tied));
                return behind;
            }
        }
        behind.add(0, one);
        return behind;
    }

    private static List<Note> read(Thing part, int bar) {
        List<List<Note>> whole = part.score.whole(part.voice);
        return in(bar, 0, whole.size() - 1) ? read(whole.get(bar), part.shift) : null;
    }

    private static int tell(List<Note> bar, int i) {
        if (bar == null || !in(i, -1, bar.size() - 1)) {
            return -5;
        }
        return i == -1 ? bar.size() : bar.get(i).told();
    }

    int heard(int part, int bar, int i) {
        return wanted(part, "PART") != 0 ? -5 : tell(read(thing(part), bar), i);
    }

    int plate(int part, int a, int b) {
        int refused = wanted(part, "PART");
        if (refused != 0) {
            return refused;
        }
        Thing of = thing(part);
        int bars = of.score.whole(of.voice).size();
        if (!in(a, 0, bars - 1) || !in(b, a, bars - 1) || b - a + 1 > 8) {
            return BAD;
        }
        if (things.size() == 60) {
            return FULL;
        }
        Thing made = new Thing("PLATE");
        made.part = of;
        made.first = a;
        made.last = b;
        for (int bar = a; bar <= b; bar++) {
            made.cut.add(read(of, bar));
        }
        return keep(made);
    }

    int mend(int plate, int bar, int i, int pitch) {
        int refused = wanted(plate, "PLATE");
        if (refused != 0) {
            return refused;
        }
        Thing p = thing(plate);
        return in(bar, p.first, p.last) ? repitch(p.cut.get(bar - p.first), i, pitch, 72) : NONE;
    }

    private static Set<Integer> unlike(Thing plate) {
        Set<Integer> bars = new TreeSet<>();
        for (int bar = plate.first; bar <= plate.last; bar++) {
            if (!plate.cut.get(bar - plate.first).equals(read(plate.part, bar))) {
                bars.add(bar);
            }
        }
        return bars;
    }

    int differs(int plate, int what) {
        if (thing(plate) == null || !in(what, 0, 1)) {
            return NONE;
        }
        if (wanted(plate, "PLATE") != 0) {
            return CAST;
        }
        Set<Integer> bars = unlike(thing(plate));
        return what == 0 ? bars.size() : bars.isEmpty() ? NONE : bars.iterator().next();
    }

    // ---- editions

    int press(int plate) {
        int refused = wanted(plate, "PLATE");
        if (refused != 0) {
            return refused;
        }
        if (!press.isEmpty() && press.get(0).part.score != thing(plate).part.score) {
            return STATE;
        }
        if (press.size() == 12) {
            return FULL;
        }
        press.add(thing(plate));
        return press.size();
    }

    int edition() {
        if (press.isEmpty()) {
            return STATE;
        }
        if (things.size() == 60) {
            return FULL;
        }
        Thing made = new Thing("EDITION");
        made.score = press.get(0).part.score;
        made.plates = press.size();
        for (int voice = 0; voice < 4; voice++) {
            made.printed.put(voice, new TreeMap<>());
        }
        for (Thing plate : press) {
            for (int bar = plate.first; bar <= plate.last; bar++) {
                List<Note> cut = plate.cut.get(bar - plate.first);
                made.printed.get(plate.part.voice).put(bar, cut.stream().map(n -> n.shifted(-plate.part.shift)).toList());
            }
        }
        press.clear();
        return keep(made);
    }

    private static List<Note> barOf(Thing edition, int voice, int bar) {
        return in(voice, 0, 3) ? edition.printed.get(voice).get(bar) : null;
    }

    /** The bar when the errata ahead of one (null: all) are done. */
    private List<Note> amended(Thing edition, int voice, int bar, Thing until) {
        List<Note> plain = barOf(edition, voice, bar);
        List<Note> notes = plain == null ? null : new ArrayList<>(plain);
        for (Thing r : errataOf(edition)) {
            if (r == until) {
                break;
            }
            if (notes != null && r.voice == voice && r.bar == bar && fits(r, notes)) {
                notes.set(r.i, notes.get(r.i).at(r.after));
            }
        }
        return notes;
    }

    private static boolean fits(Thing erratum, List<Note> bar) {
        return bar != null && erratum.i < bar.size() && !bar.get(erratum.i).rest && bar.get(erratum.i).pitch == erratum.before;
    }

    int printed(int edition, int voice, int bar, int i, int amended) {
        if (wanted(edition, "EDITION") != 0 || !in(amended, 0, 1)) {
            return -5;
        }
        Thing e = thing(edition);
        return tell(amended == 0 ? barOf(e, voice, bar) : amended(e, voice, bar, null), i);
    }

    int erratum(int edition, int voice, int bar, int i, int from, int to) {
        if (thing(edition) == null || !in(voice, 0, 3)) {
            return NONE;
        }
        if (wanted(edition, "EDITION") != 0) {
            return CAST;
        }
        if (!in(bar, 0, 19) || !in(i, 0, 7) || !in(from, 1, 60) || !in(to, 1, 60)) {
            return BAD;
        }
        if (things.size() == 60) {
            return FULL;
        }
        Thing made = new Thing("ERRATUM");
        made.edition = thing(edition);
        made.voice = voice;
        made.bar = bar;
        made.i = i;
        made.before = from;
        made.after = to;
        return keep(made);
    }

    int idle(int erratum) {
        int refused = wanted(erratum, "ERRATUM");
        if (refused != 0) {
            return refused;
        }
        Thing r = thing(erratum);
        return fits(r, amended(r.edition, r.voice, r.bar, r)) ? 0 : 1;
    }

    private static int apart(List<List<Note>> a, List<List<Note>> b) {
        int[][] least = new int[a.size() + 1][b.size() + 1];
        for (int i = 0; i <= a.size(); i++) {
            for (int j = 0; j <= b.size(); j++) {
                int best = i == 0 && j == 0 ? 0 : Integer.MAX_VALUE;
                best = i > 0 ? Math.min(best, least[i - 1][j] + 1) : best;
                best = j > 0 ? Math.min(best, least[i][j - 1] + 1) : best;
                best = i > 0 && j > 0 ? Math.min(best, least[i - 1][j - 1] + (a.get(i - 1).equals(b.get(j - 1)) ? 0 : 1)) : best;
                least[i][j] = best;
            }
        }
        return least[a.size()][b.size()];
    }

    private static int apart(Thing a, Thing b, int voice) {
        return apart(new ArrayList<>(a.printed.get(voice).values()), new ArrayList<>(b.printed.get(voice).values()));
    }

    private static int distance(Thing a, Thing b) {
        return apart(a, b, 0) + apart(a, b, 1) + apart(a, b, 2) + apart(a, b, 3);
    }

    int changes(int a, int b, int voice) {
        if (thing(a) == null || thing(b) == null || !in(voice, -1, 3)) {
            return NONE;
        }
        if (wanted(a, "EDITION") != 0 || wanted(b, "EDITION") != 0) {
            return CAST;
        }
        if (thing(a).score != thing(b).score) {
            return STATE;
        }
        return voice == -1 ? distance(thing(a), thing(b)) : apart(thing(a), thing(b), voice);
    }

    int hangs(int edition) {
        if (wanted(edition, "EDITION") != 0) {
            return -5;
        }
        List<Thing> others = new ArrayList<>(things.stream()
            .filter(t -> t.kind.equals("EDITION") && t.score == thing(edition).score).toList());
        List<Thing> tree = new ArrayList<>();
        tree.add(others.remove(0));
        Map<Thing, Integer> on = new HashMap<>();
        on.put(tree.get(0), NONE);
        while (!others.isEmpty()) {
            int[] best = null;
            for (Thing fresh : others) {
                for (Thing old : tree) {
                    int[] pair = {distance(fresh, old), fresh.number, old.number};
                    best = best == null || Arrays.compare(pair, best) < 0 ? pair : best;
                }
            }
            on.put(things.get(best[1]), best[2]);
            tree.add(things.get(best[1]));
            others.remove(things.get(best[1]));
        }
        return on.get(thing(edition));
    }

    // ---- pages

    private record Lines(int cost, List<Integer> bars) {
        boolean betterThan(Lines other) {
            if (other == null || cost != other.cost) {
                return other == null || cost < other.cost;
            }
            for (int k = 0; k < bars.size() && k < other.bars.size(); k++) {
                if (!bars.get(k).equals(other.bars.get(k))) {
                    return bars.get(k) > other.bars.get(k);
                }
            }
            return false;
        }
    }

    /** The best lines from a bar on, so many lines being on the page already. */
    private static Lines lay(List<List<Note>> bars, int from, int onPage, int width, int lines, Map<Integer, Lines> known) {
        int key = from * 10 + onPage;
        if (known.containsKey(key)) {
            return known.get(key);
        }
        Lines best = null;
        int left = width;
        for (int to = from; to < bars.size(); to++) {
            left -= 2 + 3 * bars.get(to).size();
            if (left < 0) {
                break;
            }
            Lines one = new Lines(0, List.of(to - from + 1));
            if (to + 1 < bars.size()) {
                boolean pageEnds = onPage + 1 == lines;
                List<Note> last = bars.get(to);
                boolean rest = last.get(last.size() - 1).rest || bars.get(to + 1).get(0).rest;
                Lines behind = lay(bars, to + 1, pageEnds ? 0 : onPage + 1, width, lines, known);
                List<Integer> all = new ArrayList<>(one.bars);
                all.addAll(behind.bars);
                one = new Lines(left * left + (pageEnds && !rest ? 1000 : 0) + behind.cost, all);
            }
            best = one.betterThan(best) ? one : best;
        }
        known.put(key, best);
        return best;
    }

    int pages(int part, int width, int lines, int what) {
        if (thing(part) == null || what < 0 || in(what, 2, 9)) {
            return NONE;
        }
        if (wanted(part, "PART") != 0) {
            return CAST;
        }
        if (!in(width, 5, 99) || !in(lines, 1, 4)) {
            return BAD;
        }
        Thing p = thing(part);
        List<List<Note>> bars = p.score.whole(p.voice).stream().map(bar -> read(bar, p.shift)).toList();
        if (bars.isEmpty() || bars.stream().anyMatch(bar -> 2 + 3 * bar.size() > width)) {
            return STATE;
        }
        Lines best = lay(bars, 0, 0, width, lines, new HashMap<>());
        if (what < 2) {
            return what == 0 ? best.cost : best.bars.size();
        }
        return what - 10 < best.bars.size() ? best.bars.get(what - 10) : NONE;
    }

    // ---- contracts

    int feed(int bytes, int n) {
        if (!in(n, 0, 4)) {
            return BAD;
        }
        if (text.length() + n > 120) {
            return FULL;
        }
        String all = String.format("%08x", bytes);
        for (int k = 4 - n; k < 4; k++) {
            text += (char) Integer.parseInt(all.substring(2 * k, 2 * k + 2), 16);
        }
        return text.length();
    }

    /**
     * What may follow, as rows of signs: small ones are themselves, C a clause, N a number, E, T, F with how many ( and ! they are in,
     * D a digit, + and - what may or may not be. All that may follow is followed at once.
     */
    private static int fault(String text) {
        Set<String> may = new LinkedHashSet<>(List.of("C7"));
        for (int place = 0; place < text.length(); place++) {
            Set<String> next = new LinkedHashSet<>();
            for (String row : heads(may)) {
                if (!row.isEmpty() && begins(row.charAt(0), text.charAt(place))) {
                    next.add(row.substring(1));
                }
            }
            if (next.isEmpty()) {
                return place;
            }
            may = next;
        }
        return heads(may).contains("") ? NONE : text.length();
    }

    private static boolean begins(char sign, char c) {
        return sign == 'D' ? c >= '0' && c <= '9' : sign == c;
    }

    private static Set<String> heads(Set<String> rows) {
        Set<String> heads = new LinkedHashSet<>();
        List<String> open = new ArrayList<>(rows);
        while (!open.isEmpty()) {
            String row = open.remove(open.size() - 1);
            List<String> first = row.isEmpty() ? null : grown(row);
            if (first == null) {
                heads.add(row);
            } else {
                open.addAll(first);
            }
        }
        return heads;
    }

    private static List<String> grown(String row) {
        char sign = row.charAt(0);
        if (sign == 'N') {
            return List.of("D" + row.substring(1), "DD" + row.substring(1), "DDD" + row.substring(1));
        }
        if ("CETF".indexOf(sign) < 0) {
            return null;
        }
        int deep = row.charAt(1) - '0';
        String rest = row.substring(2);
        List<String> grown = new ArrayList<>();
        if (sign == 'C') {
            for (String more : deep == 0 ? List.of("") : List.of("", ";C" + (deep - 1))) {
                grown.add("life N" + more + rest);
                grown.add("least N" + more + rest);
                for (String who : List.of("as", "ah", "ap", "rs", "rh", "rp")) {
                    grown.add(who + " N" + more + rest);
                    grown.add(who + " N if E0" + more + rest);
                }
            }
        } else if (sign == 'E') {
            grown.add("T" + deep + rest);
            grown.add("T" + deep + "|E" + deep + rest);
        } else if (sign == 'T') {
            grown.add("F" + deep + rest);
            grown.add("F" + deep + "&T" + deep + rest);
        } else {
            grown.addAll(List.of("x" + rest, "y<N" + rest, "y>N" + rest, "m<N" + rest, "m>N" + rest));
            if (deep < 5) {
                grown.add("!F" + (deep + 1) + rest);
                grown.add("(E" + (deep + 1) + ")" + rest);
            }
        }
        return grown;
    }

    int contract(int land, int day) {
        if (!in(land, 0, 3)) {
            return NONE;
        }
        if (!in(day, 0, 9999)) {
            return BAD;
        }
        if (contracts.size() == 12) {
            return FULL;
        }
        String read = text;
        text = "";
        int fault = fault(read);
        if (fault >= 0) {
            return -10 - fault;
        }
        contracts.add(new Contract(land, day, read));
        return contracts.size() - 1;
    }

    private Contract law(int land, int day) {
        Contract best = null;
        for (Contract c : contracts) {
            if (c.land == land && c.day <= day && (best == null || c.day >= best.day)) {
                best = c;
            }
        }
        return best;
    }

    int lawful(int land, int day, int what) {
        if (!in(land, 0, 3) || !in(day, 0, 9999) || !in(what, 0, 3)) {
            return -5;
        }
        Contract law = law(land, day);
        if (law == null) {
            return what == 0 ? NONE : what == 1 ? 10 : 0;
        }
        if (what == 0) {
            int number = 0;
            while (contracts.get(number) != law) {
                number++;
            }
            return number;
        }
        if (what == 3) {
            return (int) Arrays.stream(law.text.split(";")).filter(c -> !c.startsWith("l")).count();
        }
        return what == 1 ? law.last("life", 10) : law.last("least", 0);
    }

    private boolean lives(int author, int day) {
        return deaths.get(author) == null || day < deaths.get(author);
    }

    private boolean has(int author, int land, int day) {
        return lives(author, day) || day - deaths.get(author) < 365 * lawful(land, day, 1);
    }

    int right(int author, int land, int day) {
        if (!isAuthor(author) || !in(land, 0, 3)) {
            return NONE;
        }
        return !in(day, 0, 9999) ? BAD : has(author, land, day) ? 1 : 0;
    }

    /** Where a sign stands that is in no ( ), -1: nowhere. */
    private static int outside(String e, char sign) {
        int deep = 0;
        for (int k = 0; k < e.length(); k++) {
            deep += e.charAt(k) == '(' ? 1 : e.charAt(k) == ')' ? -1 : 0;
            if (deep == 0 && e.charAt(k) == sign) {
                return k;
            }
        }
        return -1;
    }

    private static boolean holds(String e, boolean derived, int years, int minutes) {
        int at = outside(e, '|');
        if (at >= 0) {
            return holds(e.substring(0, at), derived, years, minutes) | holds(e.substring(at + 1), derived, years, minutes);
        }
        at = outside(e, '&');
        if (at >= 0) {
            return holds(e.substring(0, at), derived, years, minutes) & holds(e.substring(at + 1), derived, years, minutes);
        }
        switch (e.charAt(0)) {
            case '!':
                return !holds(e.substring(1), derived, years, minutes);
            case '(':
                return holds(e.substring(1, e.length() - 1), derived, years, minutes);
            case 'x':
                return derived;
            default:
                int than = Integer.parseInt(e.substring(2));
                int is = e.charAt(0) == 'y' ? years : minutes;
                return e.charAt(1) == '<' ? is < than : is > than;
        }
    }

    private int share(String who, Thing score, int land, int day, int sum, int minutes, int left) {
        Contract law = law(land, day);
        int author = who.startsWith("a") ? score.root().author : score.author;
        if (law == null || !has(author, land, day)) {
            return 0;
        }
        int rootAuthor = score.root().author;
        int years = lives(rootAuthor, day) ? 0 : (day - deaths.get(rootAuthor)) / 365;
        int thousandths = 0;
        boolean any = false;
        for (String clause : law.text.split(";")) {
            String[] words = clause.split(" ");
            if (words[0].equals(who) && (words.length < 3 || holds(words[3], score.from != null, years, minutes))) {
                thousandths += Integer.parseInt(words[1]);
                any = true;
            }
        }
        int cut = sum * thousandths / 1000;
        return any ? Math.min(left, Math.max(cut, law.last("least", 0))) : 0;
    }

    int paid(int score, int land, int day, int act, int sum, int minutes, int who) {
        if (thing(score) == null || !in(land, 0, 3) || !in(who, 0, 2)) {
            return NONE;
        }
        if (wanted(score, "SCORE") != 0) {
            return CAST;
        }
        if (!in(day, 0, 9999) || !in(act, 0, 2) || !in(sum, 0, 100000) || !in(minutes, 0, 999)) {
            return BAD;
        }
        Thing s = thing(score);
        char how = "shp".charAt(act);
        int a = share("a" + how, s, land, day, sum, minutes, sum);
        int r = s.from == null ? 0 : share("r" + how, s, land, day, sum, minutes, sum - a);
        return who == 0 ? a : who == 1 ? r : sum - a - r;
    }

    // ---- hire, prints, proofs

    int set(int part) {
        int refused = wanted(part, "PART");
        if (refused != 0) {
            return refused;
        }
        Thing of = thing(part);
        return things.size() == 60 ? FULL : keep(partOf(of.score, of.voice, of.shift, "SET"));
    }

    int stands(int set, int town) {
        if (thing(set) == null || !in(town, 0, 5)) {
            return NONE;
        }
        if (wanted(set, "SET") != 0) {
            return CAST;
        }
        int was = thing(set).town;
        thing(set).town = town;
        return was;
    }

    int way(int a, int b, int days) {
        if (!in(a, 0, 5) || !in(b, 0, 5)) {
            return NONE;
        }
        if (a == b || !in(days, 0, 99)) {
            return BAD;
        }
        int was = ways[a][b];
        ways[a][b] = days;
        ways[b][a] = days;
        return was;
    }

    int ask(int town, int from, int to, int worth) {
        if (!in(town, 0, 5)) {
            return NONE;
        }
        if (!in(from, 0, 9999) || !in(to, from, 9999) || !in(worth, 0, 999)) {
            return BAD;
        }
        if (asks.size() == 9) {
            return FULL;
        }
        asks.add(new Ask(town, from, to, worth));
        return asks.size() - 1;
    }

    int askless() {
        int were = asks.size();
        asks.clear();
        return were;
    }

    private boolean served(int bits, int town) {
        List<Ask> some = new ArrayList<>();
        for (int k = 0; k < asks.size(); k++) {
            if ((bits >> k & 1) == 1) {
                some.add(asks.get(k));
            }
        }
        some.sort((a, b) -> a.from - b.from);
        int day = today;
        int is = town;
        for (Ask a : some) {
            if (day + ways[is][a.town] > a.from) {
                return false;
            }
            day = a.to + 1;
            is = a.town;
        }
        return true;
    }

    int hire(int set, int what) {
        if (thing(set) == null || !in(what, 0, 1)) {
            return NONE;
        }
        if (wanted(set, "SET") != 0) {
            return CAST;
        }
        int[] best = {0, 0, 0};
        for (int bits = 1; bits < 1 << asks.size(); bits++) {
            int worth = 0;
            for (int k = 0; k < asks.size(); k++) {
                worth += (bits >> k & 1) * asks.get(k).worth;
            }
            int[] one = {-worth, Integer.bitCount(bits), bits};
            if (Arrays.compare(one, best) < 0 && served(bits, thing(set).town)) {
                best = one;
            }
        }
        return what == 0 ? -best[0] : best[2];
    }

    int month(int copies) {
        if (!in(copies, 0, 999)) {
            return BAD;
        }
        if (months.size() == 10) {
            return FULL;
        }
        months.add(copies);
        return months.size();
    }

    int costs(int newSetup, int newHold, int newMost) {
        if (!in(newSetup, 0, 9999) || !in(newHold, 0, 99) || !in(newMost, 1, 9999)) {
            return BAD;
        }
        int were = months.size();
        setup = newSetup;
        hold = newHold;
        most = newMost;
        months.clear();
        return were;
    }

    /** -1: these prints can't be. */
    private int costOf(int bits) {
        int cost = 0;
        int print = -1;
        int made = 1;
        for (int k = 0; k < months.size(); k++) {
            if ((bits >> k & 1) == 1) {
                if (made == 0) {
                    return -1;
                }
                print = k;
                made = 0;
                cost += setup;
            }
            if (print < 0 && months.get(k) > 0) {
                return -1;
            }
            if (print >= 0) {
                made += months.get(k);
                cost += months.get(k) * (k - print) * hold;
                if (made > most) {
                    return -1;
                }
            }
        }
        return made == 0 ? -1 : cost;
    }

    int prints(int what) {
        if (!in(what, 0, 1)) {
            return NONE;
        }
        if (months.stream().anyMatch(m -> m > most)) {
            return STATE;
        }
        int[] best = null;
        for (int bits = 0; bits < 1 << months.size(); bits++) {
            int[] one = {costOf(bits), Integer.bitCount(bits), bits};
            if (one[0] >= 0 && (best == null || Arrays.compare(one, best) < 0)) {
                best = one;
            }
        }
        return what == 0 ? best[0] : best[2];
    }

    int proof(int hand, int plate, int bits) {
        if (!in(hand, 0, 3) || thing(plate) == null) {
            return NONE;
        }
        if (wanted(plate, "PLATE") != 0) {
            return CAST;
        }
        Thing p = thing(plate);
        if (bits < 0 || bits >= 1 << p.cut.size()) {
            return BAD;
        }
        p.marked.put(hand, bits);
        return (int) unlike(p).stream().filter(bar -> (bits >> bar - p.first & 1) == 1).count();
    }

    long left(int plate, int a, int b, int part) {
        if (wanted(plate, "PLATE") != 0 || !in(part, 0, 1) || a == b) {
            return NO;
        }
        Integer one = thing(plate).marked.get(a);
        Integer other = thing(plate).marked.get(b);
        if (one == null || other == null || (one & other) == 0) {
            return NO;
        }
        int n = Integer.bitCount(one);
        int m = Integer.bitCount(other);
        int both = Integer.bitCount(one & other);
        int above = n * m - (n + m) * both + both * both;
        int below = both;
        for (int d = 2; d <= 8; d++) {
            while (above % d == 0 && below % d == 0) {
                above /= d;
                below /= d;
            }
        }
        return part == 0 ? above : below;
    }

    int missed(int hand, int plate) {
        if (!in(hand, 0, 3) || thing(plate) == null) {
            return NONE;
        }
        if (wanted(plate, "PLATE") != 0) {
            return CAST;
        }
        Thing p = thing(plate);
        Integer bits = p.marked.get(hand);
        return bits == null ? STATE : (int) unlike(p).stream().filter(bar -> (bits >> bar - p.first & 1) == 0).count();
    }

    // ---- acts, tapes

    private int run(Thing t, String act, int x, String from) {
        String kind = from;
        while (!BODIES.containsKey(kind + " " + act)) {
            kind = ABOVE.get(kind);
        }
        int body = BODIES.get(kind + " " + act);
        trace.add(body);
        String up = ABOVE.get(kind);
        if (body == 10) {
            return x + t.number;
        } else if (body == 11) {
            return run(t, "holds", x, t.kind) ^ 3;
        } else if (body == 12) {
            return run(t, "turns", x, t.kind) - x;
        } else if (body == 20) {
            return run(t, "holds", x, up) * 2;
        } else if (body == 30) {
            return run(t, "turns", x, up) + run(t, "holds", 1, t.kind);
        } else if (body == 40) {
            return run(t, "earns", x, up) + 7;
        } else if (body == 50) {
            return run(t, "holds", x + 4, up);
        } else if (body == 60) {
            return -run(t, "turns", x, up);
        } else if (body == 61) {
            return run(t, "holds", x, up) + 1;
        } else if (body == 70) {
            return run(t, "earns", x, up) ^ run(t, "holds", x, t.kind);
        }
        return run(t, "holds", x, t.kind) - run(t, "turns", x, up);
    }

    int act(int thing, int act, int x) {
        trace.clear();
        if (thing(thing) == null || !in(act, 0, 2)) {
            return 0;
        }
        return run(thing(thing), List.of("holds", "turns", "earns").get(act), x, thing(thing).kind);
    }

    int trace(int i) {
        return in(i, 0, Math.min(20, trace.size()) - 1) ? trace.get(i) : NONE;
    }

    int taken(int thing, int k) {
        if (!in(k, 0, 7)) {
            return BAD;
        }
        if (thing(thing) == null) {
            return NOTHING;
        }
        for (String kind = thing(thing).kind; kind != null; kind = ABOVE.get(kind)) {
            if (kind.equals(KINDS[k])) {
                return Arrays.asList(KINDS).indexOf(thing(thing).kind);
            }
        }
        return CAST;
    }

    int count(int what) {
        int[] all = {today, deaths.size(), things.size(), contracts.size(), text.length(), press.size(), asks.size(), months.size(),
            trace.size()};
        return in(what, 0, 8) ? all[what] : BAD;
    }

    int tape(int tape, int sort, int n) {
        if (!in(tape, 0, 5)) {
            return NONE;
        }
        if (!in(sort, -1, 3) || sort >= 0 && n > 60) {
            return BAD;
        }
        if (sort >= 0 && n < 0) {
            return SIZE;
        }
        sorts[tape] = sort;
        rows[tape] = new int[sort < 0 ? 0 : n];
        return 1;
    }

    int item(int tape, int i, int v) {
        if (!in(tape, 0, 5)) {
            return NONE;
        }
        if (sorts[tape] < 0) {
            return NOTHING;
        }
        if (!in(i, 0, rows[tape].length - 1)) {
            return PLACE;
        }
        int[] kept = {(byte) v, (short) v, v, v != 0 ? 1 : 0};
        rows[tape][i] = kept[sorts[tape]];
        return 1;
    }

    long read(int tape, int i) {
        return in(tape, 0, 5) && in(i, 0, rows[tape].length - 1) ? rows[tape][i] : NO;
    }

    int shift(int tape, int i, int other, int j, int n) {
        if (!in(tape, 0, 5) || !in(other, 0, 5)) {
            return NONE;
        }
        if (sorts[tape] < 0 || sorts[other] < 0) {
            return NOTHING;
        }
        if (sorts[tape] != sorts[other]) {
            return CAST;
        }
        if (n < 0 || i < 0 || j < 0 || (long) i + n > rows[tape].length || (long) j + n > rows[other].length) {
            return PLACE;
        }
        int[] were = rows[tape].clone();
        for (int k = 0; k < n; k++) {
            rows[other][j + k] = were[i + k];
        }
        return n;
    }
}
