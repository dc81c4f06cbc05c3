import java.nio.file.Files;
import java.nio.file.Path;
import java.util.ArrayList;
import java.util.List;
import java.util.regex.Matcher;
import java.util.regex.Pattern;

/**
 * Each sentence of the document that names a boundary has a test here that bears its words: that the words stand there is looked at,
 * and that no place of the document that names a boundary stands outside the words of some test.
 */
public final class BoundsTest {
    private static final int NONE = -1, BAD = -2, STATE = -3, FULL = -4;
    private static final int NO_SUCH = -5, NOTHING = -11, CAST = -12, PLACE = -13, SIZE = -14;
    private static final long NO = Long.MIN_VALUE;
    private static final int MAX = Integer.MAX_VALUE, MIN = Integer.MIN_VALUE;
    private static final Pattern BOUNDARY = Pattern.compile("\\b(NONE|BAD|STATE|FULL|CAST|NOTHING|PLACE|SIZE|NO)\\b|-100|-5\\b|-1\\b"
            + "|\\.\\.|at most|at least|at first|no more|no such|up to|beyond|below|empty|wrapping|never|too early|kept|cut|without|at once"
            + "|of several|the latest|the last|first 20|whatever|unless|nothing|none|is left|the ends? of");

    private static String[] sections;
    private static boolean[][] covered;
    private static String words;
    private static int promise;
    private static int check;
    private static int wrong = 0;
    private static int tests = 0;

    private static void fault(String what) {
        if (wrong++ < 60) {
            System.out.println("promise " + promise + ", \"" + words + "\": " + what);
        }
    }

    /** Rows of what is due and what was answered: due, answer, due, answer .. */
    private static void dues(long... rows) {
        for (int k = 0; k + 1 < rows.length; k += 2) {
            check++;
            if (rows[k] != rows[k + 1]) {
                fault("check " + check + " answered " + rows[k + 1] + ", due is " + rows[k]);
            }
        }
    }

    /** A test of the words that stand in a promise (0: in the terms). */
    private static void says(int inPromise, String said, Runnable test) {
        promise = inPromise;
        words = said;
        check = 0;
        tests++;
        int at = sections[promise].indexOf(said);
        if (at < 0) {
            fault("these words do not stand there");
        }
        for (; at >= 0; at = sections[promise].indexOf(said, at + 1)) {
            for (int k = at; k < at + said.length(); k++) {
                covered[promise][k] = true;
            }
        }
        try {
            test.run();
        } catch (RuntimeException e) {
            fault("behind check " + check + " it threw " + e);
        }
    }

    private static void readDocument() throws Exception {
        String doc = Files.readString(Path.of("../shared/DOC.md"));
        sections = new String[51];
        sections[0] = doc.substring(doc.indexOf("## Terms"), doc.indexOf("Ahead of the calls"));
        for (int k = 1; k <= 50; k++) {
            int from = doc.indexOf("`: ", doc.indexOf("## Promise " + k + ": "));
            sections[k] = doc.substring(from + 3, doc.indexOf("\n## ", from));
        }
        covered = new boolean[51][];
        for (int k = 0; k <= 50; k++) {
            covered[k] = new boolean[sections[k].length()];
        }
    }

    private static void allBoundariesTested() {
        for (int k = 0; k <= 50; k++) {
            promise = k;
            Matcher m = BOUNDARY.matcher(sections[k]);
            while (m.find()) {
                if (!covered[k][m.start()]) {
                    int from = Math.max(0, m.start() - 40);
                    words = sections[k].substring(from, Math.min(sections[k].length(), m.end() + 40));
                    fault("no test bears these words");
                }
            }
        }
    }

    // ---- houses

    /** An author and a score 0 with voices of no bars. */
    private static EngraversHouse score(int meter, int voices) {
        EngraversHouse x = new EngraversHouse();
        x.author();
        x.score(0, meter, voices);
        return x;
    }

    private static void notes(EngraversHouse x, int score, int voice, int... rows) {
        Probe.notes(x, score, voice, rows);
    }

    /** A score 0 of meter 2 with so many bars in voice 0 of one note each, of pitches 1, 2 .., and a part 1 of it. */
    private static EngraversHouse row(int bars) {
        EngraversHouse x = score(2, 1);
        for (int k = 1; k <= bars; k++) {
            x.note(0, 0, k, 2, 0);
        }
        x.part(0, 0, 0);
        return x;
    }

    /** A score 0 of four voices of 20 bars, their parts 1 to 4, and plates 5 to 12 of the first and the last bar of each. */
    private static EngraversHouse voicesOfFullBars() {
        EngraversHouse x = score(2, 4);
        for (int k = 0; k < 80; k++) {
            x.note(0, k / 20, 1 + k / 20, 2, 0);
        }
        for (int voice = 0; voice < 4; voice++) {
            x.part(0, voice, 0);
        }
        for (int part = 1; part <= 4; part++) {
            x.plate(part, 0, 0);
            x.plate(part, 19, 19);
        }
        return x;
    }

    private static int edition(EngraversHouse x, int... plates) {
        for (int plate : plates) {
            x.press(plate);
        }
        return x.edition();
    }

    private static int contract(EngraversHouse x, int land, int day, String text) {
        return Probe.contract(x, land, day, text);
    }

    private static int faultOf(String text) {
        return -10 - contract(new EngraversHouse(), 0, 0, text);
    }

    private static void passTo(EngraversHouse x, int day) {
        while (x.count(0) < day) {
            x.pass(Math.min(400, day - x.count(0)));
        }
    }

    private static EngraversHouse withSet() {
        EngraversHouse x = row(1);
        x.set(1);
        return x;
    }

    private static EngraversHouse months(int setup, int hold, int most, int... asked) {
        EngraversHouse x = new EngraversHouse();
        x.costs(setup, hold, most);
        for (int copies : asked) {
            x.month(copies);
        }
        return x;
    }

    // ---- terms: things, scores, music, parts

    private static void things() {
        says(0, "THINGS 0 .. 59, as they come", () -> {
            EngraversHouse x = row(1);
            dues(2, x.plate(1, 0, 0), 1, x.press(2), 3, x.edition(), 4, x.erratum(3, 0, 0, 0, 1, 2), 5, x.set(1), 6, x.derive(0, 0, 4, 1),
                    7, x.score(0, 4, 1));
            for (int k = 8; k < 60; k++) {
                dues(k, k % 2 == 0 ? x.part(0, 0, 0) : x.set(1));
            }
            x.press(2);
            dues(FULL, x.score(0, 4, 1), FULL, x.derive(0, 0, 4, 1), FULL, x.part(0, 0, 0), FULL, x.plate(1, 0, 0), FULL, x.edition(),
                    FULL, x.erratum(3, 0, 0, 0, 1, 2), FULL, x.set(1), 60, x.count(2), 5, x.of(59, 0), -100, x.of(60, 0));
        });
        says(0, "of KINDS 1 SCORE, 2 PART, 3 PLATE, 4 EDITION, 5 SET, 6 DERIVED, 7 ERRATUM; PART and DERIVED are under SCORE, SET is under PART; SCORE, PLATE, EDITION, ERRATUM are under 0 THING", () -> {
            EngraversHouse x = Probe.house();
            int[] kinds = {1, 2, 3, 4, 5, 6, 7};
            int[] above = {0, 1, 0, 0, 2, 1, 0};
            for (int t = 0; t < 7; t++) {
                dues(kinds[t], x.of(t, 0), kinds[t], x.taken(t, kinds[t]), kinds[t], x.taken(t, above[t]), kinds[t], x.taken(t, 0));
            }
        });
        says(0, "TODAY is a DAY (0 at first, 9999 at most)", () -> {
            EngraversHouse x = new EngraversHouse();
            dues(0, x.count(0));
            passTo(x, 9998);
            dues(BAD, x.pass(2), 9999, x.pass(1), BAD, x.pass(1), BAD, x.pass(400), 9999, x.count(0));
        });
        says(0, "a METER (2 .. 12), VOICES (1 .. 4), each a row of BARS (20 at most)", () -> {
            EngraversHouse x = score(2, 4);
            dues(BAD, x.score(0, 1, 1), BAD, x.score(0, 13, 1), 1, x.score(0, 12, 1), BAD, x.score(0, 2, 0), BAD, x.score(0, 2, 5));
            for (int voice = 0; voice < 4; voice++) {
                for (int k = 1; k <= 20; k++) {
                    dues(k, x.note(0, voice, 1, 2, 0));
                }
                dues(FULL, x.note(0, voice, 1, 2, 0), FULL, x.note(0, voice, 1, 1, 0), 20, x.bars(0, voice));
            }
            dues(NONE, x.note(0, 4, 1, 2, 0), 0, x.note(1, 0, 1, 11, 0), 1, x.note(1, 0, 1, 1, 0));
        });
        says(0, "A BAR has up to 8 NOTES: PITCH 0 (a rest) or 1 .. 60, LENGTH 1 .. 12, TIED to the next one or not (a rest never is); it is WHOLE if its LENGTHS together are METER.", () -> {
            EngraversHouse x = score(12, 2);
            for (int k = 1; k <= 7; k++) {
                dues(0, x.note(0, 0, k, 1, 0));
            }
            dues(1, x.note(0, 0, 8, 5, 1), 1, x.part(0, 0, 0), 8, x.heard(1, 0, -1), 108011, x.heard(1, 0, 7));
            dues(1, x.note(0, 0, 0, 11, 0), BAD, x.note(0, 0, 0, 1, 1), BAD, x.note(0, 0, -1, 1, 0), BAD, x.note(0, 0, 61, 1, 0),
                    BAD, x.note(0, 0, 1, 0, 0), BAD, x.note(0, 0, 1, 13, 0), 2, x.note(0, 0, 60, 1, 1), 3, x.note(0, 0, 1, 12, 0));
            EngraversHouse y = score(8, 1);
            for (int k = 1; k <= 7; k++) {
                y.note(0, 0, 1, 1, 1);
            }
            dues(0, y.bars(0, 0), 1, y.note(0, 0, 1, 1, 1), 1, y.part(0, 0, 0), 1, y.heard(1, 0, -1), 101017, y.heard(1, 0, 0));
        });
        says(0, "NOTES come one by one to the BAR of a VOICE that is not WHOLE, else to a new one; one that is longer than what is left of the BAR, or an 8th by which it is not WHOLE, is none.", () -> {
            EngraversHouse x = score(12, 2);
            dues(STATE, score(4, 1).note(0, 0, 1, 5, 0), 0, x.note(0, 0, 1, 5, 0), 0, x.note(0, 1, 1, 12 - 1, 0),
                    STATE, x.note(0, 0, 1, 8, 0), STATE, x.note(0, 1, 1, 2, 0), 1, x.note(0, 0, 1, 7, 0), 1, x.note(0, 1, 1, 1, 0),
                    1, x.bars(0, 0));
            for (int k = 0; k < 7; k++) {
                dues(1, x.note(0, 0, 2, 1, 0));
            }
            dues(STATE, x.note(0, 0, 2, 4, 0), STATE, x.note(0, 0, 2, 6, 0), STATE, x.note(0, 0, 2, 1, 0), 2, x.note(0, 0, 2, 5, 0));
        });
        says(0, "Just WHOLE BARS are heard of here.", () -> {
            EngraversHouse x = score(4, 1);
            x.part(0, 0, 0);
            x.note(0, 0, 5, 3, 0);
            dues(0, x.bars(0, 0), NO_SUCH, x.heard(1, 0, -1), NO_SUCH, x.heard(1, 0, 0), NONE, x.alter(0, 0, 0, 0, 6),
                    BAD, x.plate(1, 0, 0), STATE, x.pages(1, 99, 1, 0));
            dues(1, x.note(0, 0, 6, 1, 0), 2, x.heard(1, 0, -1), 5, x.alter(0, 0, 0, 0, 6), 2, x.plate(1, 0, 0), 0, x.pages(1, 99, 1, 0));
        });
        says(0, "its ROOT: that one's, if it is DERIVED, else that one; a SCORE's: itself", () -> {
            EngraversHouse x = score(4, 1);
            dues(1, x.score(0, 4, 1), 2, x.derive(1, 0, 4, 1), 3, x.derive(2, 0, 4, 1), 4, x.derive(3, 0, 4, 1), 0, x.of(0, 1),
                    1, x.of(1, 1), 1, x.of(2, 1), 1, x.of(3, 1), 1, x.of(4, 1));
        });
    }

    private static EngraversHouse taped(int meter, int... items) {
        EngraversHouse x = score(meter, 1);
        x.tape(0, 1, items.length);
        for (int k = 0; k < items.length; k++) {
            x.item(0, k, items[k]);
        }
        return x;
    }

    private static void music() {
        says(0, "each is 100 times PITCH, twice LENGTH, and 1 if it is TIED (LENGTH by the last two digits, halved, cut).", () -> {
            int[][] well = {{1, 102}, {1, 103}, {60, 6002}, {60, 6025}, {0, 2}, {0, 24}, {7, 725}};
            for (int[] row : well) {
                int length = row[1] % 100 / 2;
                EngraversHouse x = taped(Math.max(2, length), row[1]);
                dues(1, x.music(0, 0, 0, 0, 1), 0, x.ended());
                if (length == 1) {
                    dues(1, x.note(0, 0, 59, 1, 0));
                }
                x.part(0, 0, 0);
                dues((row[0] == 0 ? 0 : 1000 * (row[0] + 100)) + 2 * length + row[1] % 2, x.heard(1, 0, 0));
            }
            for (int none : new int[] {0, 1, 3, 5, 25, 100, 101, 126, 127, 199, 6102, 6000, 6126, -1, -2, -98, -102, -103, 32767, -32768}) {
                EngraversHouse x = taped(12, none);
                dues(0, x.music(0, 0, 0, 0, 1), 2, x.ended(), 0, x.note(0, 0, 1, 11, 0));
            }
        });
        says(0, "It ends, TORN, where the row is missing or has no such place;", () -> {
            EngraversHouse x = taped(4, 102, 104, 102);
            x.tape(1, 1, 0);
            dues(0, x.music(0, 0, 5, 0, 1), 1, x.ended(), 0, x.music(0, 0, 1, 0, 60), 1, x.ended(), 0, x.music(0, 0, 0, 3, 1),
                    1, x.ended(), 0, x.music(0, 0, 0, -1, 60), 1, x.ended(), 0, x.music(0, 0, 0, MAX, 60), 1, x.ended(),
                    0, x.music(0, 0, 0, MIN, 60), 1, x.ended(), 3, x.music(0, 0, 0, 0, 4), 1, x.ended(), 1, x.bars(0, 0),
                    1, x.music(0, 0, 0, 2, 60), 1, x.ended());
        });
        says(0, "else where one is no NOTE that may come, or there is no room for a BAR.", () -> {
            EngraversHouse x = taped(4, 104, 106, 104, 126, 3);
            dues(1, x.music(0, 0, 0, 0, 5), 2, x.ended(), 1, x.music(0, 0, 0, 2, 3), 2, x.ended(), 0, x.music(0, 0, 0, 4, 1), 2, x.ended(),
                    1, x.bars(0, 0));
            EngraversHouse y = taped(12, 102, 102, 102, 102, 102, 102, 102, 102);
            dues(7, y.music(0, 0, 0, 0, 8), 2, y.ended(), 1, y.note(0, 0, 1, 5, 0));
            EngraversHouse z = row(19);
            z.tape(0, 1, 4);
            for (int k = 0; k < 3; k++) {
                z.item(0, k, 102);
            }
            z.item(0, 3, 106);
            dues(2, z.music(0, 0, 0, 0, 3), 3, z.ended(), 20, z.bars(0, 0), 0, z.music(0, 0, 0, 0, 1), 3, z.ended(),
                    0, z.music(0, 0, 0, 3, 1), 2, z.ended());
        });
        says(0, "What came ahead stays.", () -> {
            EngraversHouse x = taped(4, 102, 204, 0);
            x.part(0, 0, 0);
            dues(2, x.music(0, 0, 0, 0, 3), 2, x.ended(), 0, x.bars(0, 0), STATE, x.note(0, 0, 9, 2, 0), 1, x.note(0, 0, 9, 1, 0),
                    101002, x.heard(1, 0, 0), 102004, x.heard(1, 0, 1));
        });
    }

    private static void parts() {
        says(0, "A PART: of a SCORE or DERIVED, a VOICE, a SHIFT (-12 .. 12).", () -> {
            EngraversHouse x = score(4, 2);
            x.derive(0, 0, 4, 3);
            dues(BAD, x.part(0, 0, -13), BAD, x.part(0, 0, 13), 2, x.part(0, 1, -12), 3, x.part(1, 2, 12), -12, x.of(2, 3), 12, x.of(3, 3),
                    1, x.of(3, 1), 2, x.of(3, 2), NONE, x.part(0, 2, 0), NONE, x.part(1, 3, 0));
        });
        says(0, "PITCHES of these that are no rests SHIFT more (a rest stays a rest, and one that is none stays none, whatever its PITCH becomes);", () -> {
            EngraversHouse x = score(12, 1);
            notes(x, 0, 0, 12, 1, 0, 0, 1, 0, 12, 2, 0, 12, 1, 0, 1, 3, 1, 0, 1, 0, 60, 3, 0);
            x.part(0, 0, -12);
            x.part(0, 0, 12);
            dues(7, x.heard(1, 0, -1), 100002, x.heard(1, 0, 0), 2, x.heard(1, 0, 1), 100004, x.heard(1, 0, 2), 100002, x.heard(1, 0, 3),
                    89007, x.heard(1, 0, 4), 2, x.heard(1, 0, 5), 148006, x.heard(1, 0, 6), 7, x.heard(2, 0, -1), 124002, x.heard(2, 0, 0),
                    2, x.heard(2, 0, 1), 172006, x.heard(2, 0, 6));
            EngraversHouse y = score(4, 1);
            notes(y, 0, 0, 3, 1, 1, 3, 2, 0, 3, 1, 0);
            y.part(0, 0, -3);
            y.plate(1, 0, 0);
            dues(2, y.heard(1, 0, -1), 100006, y.heard(1, 0, 0), 100002, y.heard(1, 0, 1), 0, y.mend(2, 0, 1, 9));
        });
        says(0, "of neighbours two rests become one, and a TIED one and the next one of its PITCH one (TIED as that is): their LENGTHS are added, and so on with what is behind.", () -> {
            EngraversHouse x = score(12, 1);
            notes(x, 0, 0, 0, 1, 0, 0, 2, 0, 0, 3, 0, 5, 1, 1, 5, 1, 1, 5, 1, 1, 6, 1, 1, 0, 2, 0);
            notes(x, 0, 0, 5, 1, 1, 5, 1, 0, 5, 1, 0, 5, 1, 1, 0, 1, 0, 5, 3, 1, 0, 2, 0, 0, 2, 0);
            notes(x, 0, 0, 0, 12, 0, 0, 12, 0, 7, 12, 1, 7, 12, 1);
            x.part(0, 0, 0);
            dues(4, x.heard(1, 0, -1), 12, x.heard(1, 0, 0), 105007, x.heard(1, 0, 1), 106003, x.heard(1, 0, 2), 4, x.heard(1, 0, 3),
                    NO_SUCH, x.heard(1, 0, 4));
            dues(6, x.heard(1, 1, -1), 105004, x.heard(1, 1, 0), 105002, x.heard(1, 1, 1), 105003, x.heard(1, 1, 2), 2, x.heard(1, 1, 3),
                    105007, x.heard(1, 1, 4), 8, x.heard(1, 1, 5));
            dues(24, x.heard(1, 2, 0), 24, x.heard(1, 3, 0), 107025, x.heard(1, 4, 0), 107025, x.heard(1, 5, 0));
        });
        says(0, "A SET is a PART of its own (of the PART's SCORE, VOICE, SHIFT) that can be hired.", () -> {
            EngraversHouse x = score(4, 3);
            x.note(0, 2, 5, 4, 0);
            x.part(0, 2, -7);
            dues(2, x.set(1), 3, x.set(2), 0, x.of(3, 1), 2, x.of(3, 2), -7, x.of(3, 3), 98008, x.heard(3, 0, 0), 4, x.plate(3, 0, 0),
                    0, x.hire(3, 0), CAST, x.hire(1, 0), 0, x.stands(2, 4), 0, x.stands(3, 1), 4, x.stands(2, 0));
        });
    }

    // ---- terms: plates, editions

    private static void plates() {
        says(0, "A PLATE: of a PART, its BARS from a to b (8 at most), AS READ when it is cut.", () -> {
            EngraversHouse x = row(20);
            dues(BAD, x.plate(1, 0, 8), 2, x.plate(1, 0, 7), 3, x.plate(1, 12, 19), BAD, x.plate(1, 12, 20), BAD, x.plate(1, 11, 19),
                    4, x.plate(1, 19, 19), BAD, x.plate(1, 20, 20), BAD, x.plate(1, 5, 4));
            dues(1, x.alter(0, 0, 0, 0, 9), 1, x.mend(2, 0, 0, 50), NONE, x.mend(2, 8, 0, 50), NONE, x.mend(3, 11, 0, 50),
                    13, x.mend(3, 12, 0, 50), 20, x.mend(3, 19, 0, 50), NONE, x.mend(4, 18, 0, 1));
        });
        says(0, "MENDED: a NOTE on it that is no rest gets a PITCH (1 .. 72; also the same).", () -> {
            EngraversHouse x = score(4, 1);
            notes(x, 0, 0, 5, 1, 0, 0, 3, 0);
            x.part(0, 0, 0);
            x.plate(1, 0, 0);
            dues(BAD, x.mend(2, 0, 0, 0), BAD, x.mend(2, 0, 0, 73), STATE, x.mend(2, 0, 1, 1), 5, x.mend(2, 0, 0, 5), 0, x.differs(2, 0),
                    5, x.mend(2, 0, 0, 72), 72, x.mend(2, 0, 0, 72), 1, x.differs(2, 0), 72, x.mend(2, 0, 0, 1), 1, x.mend(2, 0, 0, 5),
                    0, x.differs(2, 0));
        });
        says(0, "It DIFFERS in a BAR if that is not as the PART reads it now (NOTES: PITCH, LENGTH, TIED).", () -> {
            EngraversHouse x = score(4, 1);
            notes(x, 0, 0, 5, 1, 1, 6, 1, 1, 7, 2, 0, 8, 4, 0);
            x.part(0, 0, 3);
            x.plate(1, 0, 1);
            dues(0, x.differs(2, 0), NONE, x.differs(2, 1), 8, x.alter(0, 0, 1, 0, 9), 1, x.differs(2, 0), 1, x.differs(2, 1),
                    11, x.mend(2, 1, 0, 12), 0, x.differs(2, 0));
            dues(6, x.alter(0, 0, 0, 1, 5), 2, x.heard(1, 0, -1), 1, x.differs(2, 0), 0, x.differs(2, 1), 5, x.alter(0, 0, 0, 1, 7),
                    2, x.heard(1, 0, -1), 1, x.differs(2, 0), 7, x.alter(0, 0, 0, 1, 6), 0, x.differs(2, 0));
        });
    }

    private static void editions() {
        says(0, "of the PLATES on THE PRESS (12 at most, told one by one, one may be told again; none of another SCORE), as they are then.", () -> {
            EngraversHouse x = row(1);
            x.plate(1, 0, 0);
            x.score(0, 2, 1);
            x.note(3, 0, 9, 2, 0);
            x.part(3, 0, 0);
            x.plate(4, 0, 0);
            for (int k = 1; k <= 12; k++) {
                dues(k, x.press(2));
            }
            dues(FULL, x.press(2), STATE, x.press(5), 12, x.count(5), 1, x.mend(2, 0, 0, 33), 6, x.edition(), 12, x.of(6, 2),
                    133004, x.printed(6, 0, 0, 0, 0), 1, x.press(5), STATE, x.press(2), 1, x.count(5));
            x.derive(0, 0, 2, 1);
            x.note(7, 0, 1, 2, 0);
            x.part(7, 0, 0);
            x.plate(8, 0, 0);
            dues(10, x.edition(), 1, x.press(2), STATE, x.press(9), 11, x.edition(), 1, x.press(9), 12, x.edition(), 7, x.of(12, 1));
        });
        says(0, "It has in a VOICE the BARS that one of its PLATES of that VOICE has; by the one told last; PITCHES that are no rests less SHIFT. (Later mends leave it.)", () -> {
            EngraversHouse x = score(4, 4);
            notes(x, 0, 0, 5, 4, 0, 6, 1, 0, 0, 3, 0);
            notes(x, 0, 3, 8, 4, 0);
            x.part(0, 0, 12);
            x.part(0, 0, -12);
            x.part(0, 3, 0);
            x.plate(1, 0, 1);
            x.plate(2, 1, 1);
            x.plate(3, 0, 0);
            x.mend(4, 0, 0, 1);
            x.mend(5, 1, 0, 72);
            dues(7, edition(x, 4, 5, 6), 89008, x.printed(7, 0, 0, 0, 0), 184002, x.printed(7, 0, 1, 0, 0), 6, x.printed(7, 0, 1, 1, 0),
                    108008, x.printed(7, 3, 0, 0, 0), NO_SUCH, x.printed(7, 3, 1, -1, 0), NO_SUCH, x.printed(7, 1, 0, -1, 0),
                    NO_SUCH, x.printed(7, 2, 0, -1, 0));
            dues(8, edition(x, 5, 4), 106002, x.printed(8, 0, 1, 0, 0), NO_SUCH, x.printed(8, 3, 0, -1, 0), 1, x.mend(4, 0, 0, 2),
                    89008, x.printed(7, 0, 0, 0, 0), 89008, x.printed(8, 0, 0, 0, 0));
        });
        says(0, "from a PITCH to a PITCH (1 .. 60 both).", () -> {
            EngraversHouse x = Probe.house();
            dues(BAD, x.erratum(3, 0, 0, 0, 0, 1), BAD, x.erratum(3, 0, 0, 0, 61, 1), BAD, x.erratum(3, 0, 0, 0, 1, 0),
                    BAD, x.erratum(3, 0, 0, 0, 1, 61), 13, x.erratum(3, 0, 0, 0, 1, 60), 14, x.erratum(3, 0, 0, 0, 60, 1),
                    15, x.erratum(3, 0, 0, 0, 60, 60));
        });
        says(0, "AMENDED: an EDITION with its ERRATA done in their order; one is IDLE if there is no such NOTE, or it has not the PITCH from then.", () -> {
            EngraversHouse x = score(4, 1);
            notes(x, 0, 0, 5, 1, 1, 5, 1, 0, 6, 1, 0, 0, 1, 0);
            x.part(0, 0, 0);
            x.plate(1, 0, 0);
            int e = edition(x, 2);
            dues(4, x.erratum(e, 0, 0, 1, 7, 8), 5, x.erratum(e, 0, 0, 1, 6, 7), 6, x.erratum(e, 0, 0, 1, 7, 6),
                    7, x.erratum(e, 0, 0, 1, 6, 60), 8, x.erratum(e, 0, 0, 0, 5, 5), 9, x.erratum(e, 0, 0, 2, 1, 2),
                    10, x.erratum(e, 0, 0, 3, 6, 7), 11, x.erratum(e, 3, 19, 7, 6, 7));
            dues(1, x.idle(4), 0, x.idle(5), 0, x.idle(6), 0, x.idle(7), 0, x.idle(8), 1, x.idle(9), 1, x.idle(10), 1, x.idle(11));
            dues(160002, x.printed(e, 0, 0, 1, 1), 106002, x.printed(e, 0, 0, 1, 0), 105004, x.printed(e, 0, 0, 0, 1),
                    2, x.printed(e, 0, 0, 2, 1), NO_SUCH, x.printed(e, 0, 0, 3, 1), 3, x.printed(e, 0, 0, -1, 1));
            EngraversHouse y = row(1);
            y.part(0, 0, 1);
            y.plate(2, 0, 0);
            y.mend(3, 0, 0, 1);
            int zero = edition(y, 3);
            dues(100004, y.printed(zero, 0, 0, 0, 0), 5, y.erratum(zero, 0, 0, 0, 1, 2), 1, y.idle(5), 100004, y.printed(zero, 0, 0, 0, 1));
        });
        says(0, "the least number of BARS that come, go, or become others by which the row of BARS that the one has becomes that of the other one (in their order; not AMENDED).", () -> {
            EngraversHouse x = row(20);
            x.plate(1, 0, 7);
            x.plate(1, 8, 15);
            x.plate(1, 1, 8);
            x.plate(1, 0, 0);
            int a = edition(x, 2);
            int b = edition(x, 3);
            int c = edition(x, 4);
            int d = edition(x, 5);
            int ab = edition(x, 2, 3);
            dues(0, x.changes(a, a, 0), 8, x.changes(a, b, 0), 2, x.changes(a, c, 0), 2, x.changes(c, a, 0), 7, x.changes(a, d, 0),
                    8, x.changes(a, ab, 0), 8, x.changes(ab, c, 0), 8, x.changes(d, c, 0), 0, x.changes(a, b, 1));
            x.erratum(a, 0, 0, 0, 1, 60);
            dues(160004, x.printed(a, 0, 0, 0, 1), 0, x.changes(a, a, 0), 8, x.changes(a, ab, 0));
            EngraversHouse y = score(4, 1);
            notes(y, 0, 0, 5, 4, 1, 5, 4, 0, 5, 4, 1);
            y.part(0, 0, 0);
            y.plate(1, 0, 0);
            y.plate(1, 1, 1);
            y.plate(1, 2, 2);
            dues(5, edition(y, 2), 6, edition(y, 3), 7, edition(y, 4), 1, y.changes(5, 6, 0), 0, y.changes(5, 7, 0),
                    1, y.changes(6, 7, -1));
        });
        says(0, "DISTANCE: CHANGES of all VOICES together.", () -> {
            EngraversHouse x = score(2, 4);
            for (int voice = 0; voice < 4; voice++) {
                for (int k = 0; k <= voice; k++) {
                    x.note(0, voice, 1 + k, 2, 0);
                }
                x.part(0, voice, 0);
            }
            for (int voice = 0; voice < 4; voice++) {
                x.plate(1 + voice, 0, voice);
            }
            int low = edition(x, 5);
            int all = edition(x, 5, 6, 7, 8);
            int high = edition(x, 8);
            dues(9, x.changes(low, all, -1), 2, x.changes(all, low, 1), 4, x.changes(all, low, 3), 5, x.changes(low, high, -1),
                    0, x.changes(all, all, -1));
        });
        says(0, "THE TREE of a SCORE: its first EDITION; then, again and again, of its others and those in THE TREE the two of the least DISTANCE (of several the least new one, then the least that is in it): the new one hangs on the other.", () -> {
            EngraversHouse x = row(8);
            x.plate(1, 0, 0);
            x.plate(1, 0, 1);
            x.plate(1, 0, 2);
            x.plate(1, 3, 3);
            int one = edition(x, 2);
            int three = edition(x, 4);
            int two = edition(x, 3);
            int again = edition(x, 3);
            int other = edition(x, 5);
            dues(NONE, x.hangs(one), one, x.hangs(two), two, x.hangs(three), two, x.hangs(again), one, x.hangs(other),
                    1, x.changes(one, other, -1), 2, x.changes(two, other, -1));
            EngraversHouse y = row(8);
            y.plate(1, 0, 0);
            y.plate(1, 0, 2);
            y.plate(1, 0, 1);
            int first = edition(y, 2);
            int far = edition(y, 3);
            dues(NONE, y.hangs(first), first, y.hangs(far));
            int between = edition(y, 4);
            dues(first, y.hangs(between), between, y.hangs(far));
        });
    }

    // ---- terms: pages

    private static void pages() {
        says(0, "so many LINES a PAGE (1 .. 4)", () -> {
            EngraversHouse x = row(5);
            dues(BAD, x.pages(1, 5, 0, 0), BAD, x.pages(1, 5, 5, 0), 4000, x.pages(1, 5, 1, 0), 2000, x.pages(1, 5, 2, 0),
                    1000, x.pages(1, 5, 3, 0), 1000, x.pages(1, 5, 4, 0), 5, x.pages(1, 5, 4, 1));
        });
        says(0, "A BAR takes 2 and 3 for each NOTE AS READ. A LINE of WIDTH w (5 .. 99) takes no more than w; it COSTS the square of what is left of w (the last LINE nothing).", () -> {
            EngraversHouse x = row(20);
            dues(BAD, x.pages(1, 4, 1, 0), BAD, x.pages(1, 100, 1, 0), 20, x.pages(1, 5, 4, 1), 2, x.pages(1, 99, 4, 1),
                    19, x.pages(1, 99, 4, 10), 1, x.pages(1, 99, 4, 11), 16, x.pages(1, 99, 4, 0));
            EngraversHouse y = score(8, 1);
            notes(y, 0, 0, 1, 1, 0, 2, 1, 0, 3, 1, 0, 4, 1, 0, 5, 1, 0, 6, 1, 0, 7, 1, 0, 8, 1, 0, 9, 4, 1, 9, 2, 1, 9, 2, 0);
            y.part(0, 0, 0);
            dues(STATE, y.pages(1, 25, 1, 0), STATE, y.pages(1, 5, 1, 0), 1000, y.pages(1, 26, 1, 0), 0, y.pages(1, 26, 2, 0),
                    2, y.pages(1, 30, 1, 1), 1016, y.pages(1, 30, 1, 0), 16, y.pages(1, 30, 4, 0), 1, y.pages(1, 31, 1, 1),
                    0, y.pages(1, 31, 1, 0));
        });
        says(0, "Where a PAGE ends, but behind the last LINE, 1000 more unless the last NOTE of its last BAR, or the first one of the next BAR, is a rest.", () -> {
            int[][] bars = {{1, 2, 0, 2, 2, 0}, {1, 2, 0, 0, 2, 0}, {0, 2, 0, 1, 2, 0}};
            for (int a = 0; a < 3; a++) {
                for (int b = 0; b < 3; b++) {
                    EngraversHouse x = score(4, 1);
                    notes(x, 0, 0, bars[a]);
                    notes(x, 0, 0, bars[b]);
                    x.part(0, 0, -1);
                    boolean easy = a == 1 || b == 2;
                    dues(easy ? 0 : 1000, x.pages(1, 8, 1, 0), 0, x.pages(1, 8, 2, 0), 0, x.pages(1, 16, 1, 0));
                }
            }
        });
        says(0, "THE BEST LAYOUT: the least COST; of several the one with more BARS in the first LINE in which they differ.", () -> {
            EngraversHouse x = row(3);
            dues(0, x.pages(1, 10, 4, 0), 2, x.pages(1, 10, 4, 10), 1, x.pages(1, 10, 4, 11), NONE, x.pages(1, 10, 4, 12));
            EngraversHouse y = score(4, 1);
            notes(y, 0, 0, 1, 4, 0, 1, 4, 0, 0, 4, 0, 1, 4, 0);
            y.part(0, 0, 0);
            dues(0, y.pages(1, 15, 1, 0), 3, y.pages(1, 15, 1, 10), 1, y.pages(1, 11, 1, 0), 2, y.pages(1, 11, 1, 10),
                    2, y.pages(1, 11, 1, 11));
            EngraversHouse z = score(4, 1);
            notes(z, 0, 0, 1, 4, 0, 1, 4, 0, 1, 4, 0, 1, 2, 0, 2, 2, 0);
            z.part(0, 0, 0);
            dues(53, z.pages(1, 12, 4, 0), 3, z.pages(1, 12, 4, 1), 2, z.pages(1, 12, 4, 10), 1, z.pages(1, 12, 4, 11),
                    1, z.pages(1, 12, 4, 12));
        });
    }

    // ---- terms: contracts

    private static void contractTerms() {
        says(0, "AUTHORS 0 .. 11, as they come; each lives, or died on a DAY.", () -> {
            EngraversHouse x = new EngraversHouse();
            for (int k = 0; k < 12; k++) {
                dues(NONE, x.died(k, 0), k, x.author(), NONE, x.right(k + 1, 0, 0));
            }
            dues(FULL, x.author(), 12, x.count(1), 1, x.died(11, 0), STATE, x.died(11, 0), 1, x.right(10, 0, 9999),
                    0, x.right(11, 0, 3650), 0, x.score(11, 4, 1));
        });
        says(0, "LANDS 0 .. 3. CONTRACTS 0 .. 11, as they come: of a LAND, in force from a DAY on;", () -> {
            EngraversHouse x = new EngraversHouse();
            for (int k = 0; k < 12; k++) {
                dues(k, contract(x, k % 4, 9999 - k, "life " + k));
            }
            dues(FULL, contract(x, 0, 0, "life 1"), NONE, x.contract(4, 0), NONE, x.contract(-1, 0), 12, x.count(3));
            for (int land = 0; land < 4; land++) {
                dues(-1, x.lawful(land, 9990 - land, 0), land + 8, x.lawful(land, 9991 - land, 0), land, x.lawful(land, 9999, 0),
                        land, x.lawful(land, 9999 - land, 1), land + 4, x.lawful(land, 9998 - land, 1));
            }
        });
        says(0, "of those in force by then that with the greatest such DAY, of several the latest.", () -> {
            EngraversHouse x = new EngraversHouse();
            dues(0, contract(x, 1, 7, "life 1"), 1, contract(x, 1, 5, "life 2"), 2, contract(x, 1, 7, "life 3"),
                    3, contract(x, 2, 7, "life 4"), 4, contract(x, 1, 0, "life 5"));
            dues(4, x.lawful(1, 0, 0), 4, x.lawful(1, 4, 0), 1, x.lawful(1, 5, 0), 1, x.lawful(1, 6, 0), 2, x.lawful(1, 7, 0),
                    2, x.lawful(1, 9999, 0), 3, x.lawful(1, 9999, 1));
        });
        says(0, "It is read from THE TEXT (bytes, 120 at most):", () -> {
            String clause = "as 100 if (x|m>999)&(m<1|x);";
            String text = clause.repeat(4) + "life 123";
            EngraversHouse x = new EngraversHouse();
            dues(120, text.length());
            Probe.feed(x, text);
            dues(120, x.count(4), FULL, x.feed(';', 1), 120, x.feed(0, 0), 0, x.contract(0, 0), 0, x.count(4), 123, x.lawful(0, 0, 1),
                    4, x.lawful(0, 0, 3));
            Probe.feed(x, text.substring(0, 119));
            // that no room is left to end well is not asked: the end is the fault, not the ; ahead of it
            dues(FULL, x.feed(0x3233, 2), 120, x.feed(';', 1), -10 - 120, x.contract(0, 0), 1, x.feed(0x80, 1), -10, x.contract(0, 0));
        });
        says(0, "CLAUSES, 8 at most, with ; between:", () -> {
            EngraversHouse x = new EngraversHouse();
            dues(0, contract(x, 0, 0, "as 1;as 1;as 1;as 1;as 1;as 1;as 1;as 1"), 8, x.lawful(0, 0, 3),
                    1, contract(x, 0, 0, "life 1;life 2;life 3;life 4;least 5;least 6;life 7;least 8"), 7, x.lawful(0, 0, 1),
                    8, x.lawful(0, 0, 2));
            dues(0, faultOf(""), 0, faultOf(";"), 5, faultOf("as 1;"), 5, faultOf("as 1;;as 1"), 4, faultOf("as 1,as 1"),
                    39, faultOf("as 1;as 1;as 1;as 1;as 1;as 1;as 1;as 1;as 1"), 39, faultOf("as 1;as 1;as 1;as 1;as 1;as 1;as 1;as 1;"),
                    40, faultOf("as 1;as 1;as 1;as 1;as 1;as 1;as 1;as 1 "), 39, faultOf("as 1;as 1;as 1;as 1;as 1;as 1;as 1;as 1x"));
        });
        says(0, "Numbers: 1 to 3 digits.", () -> {
            EngraversHouse x = score(4, 1);
            dues(3, faultOf("as "), 3, faultOf("as x"), 3, faultOf("as -1"), 6, faultOf("as 1000"), 6, faultOf("as 0001"),
                    5, faultOf("life "), 8, faultOf("life 1000"), 6, faultOf("least "), 9, faultOf("least 0000"),
                    10, faultOf("as 1 if y<"), 13, faultOf("as 1 if y<1000"), 13, faultOf("as 1 if m>1000"), 10, faultOf("as 1 if m> 1"));
            dues(0, contract(x, 0, 0, "as 0"), 0, x.paid(0, 0, 0, 0, 1000, 0, 0), 1, contract(x, 0, 0, "as 999;life 999;least 000"),
                    999, x.paid(0, 0, 0, 0, 1000, 0, 0), 999, x.lawful(0, 0, 1), 0, x.lawful(0, 0, 2),
                    2, contract(x, 0, 0, "as 007 if m<999;least 999"), 999, x.paid(0, 0, 0, 0, 1000, 998, 0),
                    0, x.paid(0, 0, 0, 0, 1000, 999, 0));
        });
        says(0, "a or r (AUTHOR of the ROOT, ARRANGER), s or h or p (sale, hire, playing), a number of thousandths, like: as 120; or so and: if E (one blank ahead and behind of if); or: life n; or: least n.", () -> {
            EngraversHouse x = score(4, 1);
            x.author();
            x.derive(0, 1, 4, 1);
            dues(0, contract(x, 0, 0, "as 1;ah 2;ap 3;rs 4;rh 5;rp 6 if x;life 0;least 0"), 6, x.lawful(0, 0, 3));
            for (int act = 0; act < 3; act++) {
                dues(1 + act, x.paid(1, 0, 0, act, 1000, 0, 0), 4 + act, x.paid(1, 0, 0, act, 1000, 0, 1),
                        995 - 2 * act, x.paid(1, 0, 0, act, 1000, 0, 2));
            }
            dues(0, faultOf("s 1"), 0, faultOf("b"), 1, faultOf("ar"), 1, faultOf("rr"), 2, faultOf("li1"), 1, faultOf("la"),
                    3, faultOf("lifx"), 4, faultOf("lease 1"), 4, faultOf("leas"), 5, faultOf("least"), 6, faultOf("life 1 if x"),
                    7, faultOf("least 1 if x"), 5, faultOf("as 1 of x"));
        });
        says(0, "E: T or T|E. T: F or F&T. F: !F, (E),", () -> {
            String[] es = {"x|x&!x", "(x|x)&!x", "!x|x", "!(x|x)", "!x&x", "!(!x&x)", "!!x", "!x&!x|x", "x&x|!x", "!x|!x&x", "x&(!x|x)", "x|!x|!x", "x&x&!x"};
            int[] held = {1, 0, 1, 0, 0, 1, 1, 1, 1, 0, 1, 1, 0};
            for (int k = 0; k < es.length; k++) {
                EngraversHouse x = score(4, 1);
                x.derive(0, 0, 4, 1);
                dues(0, contract(x, 0, 0, "as 1 if " + es[k]), held[k], x.paid(1, 0, 0, 0, 1000, 0, 0));
            }
            dues(8, faultOf("as 1 if |x"), 8, faultOf("as 1 if &x"), 9, faultOf("as 1 if !&x"), 10, faultOf("as 1 if x|"),
                    10, faultOf("as 1 if x&"), 10, faultOf("as 1 if x||x"), 10, faultOf("as 1 if x&|x"), 9, faultOf("as 1 if ()"),
                    9, faultOf("as 1 if x)"), 10, faultOf("as 1 if (x"), 10, faultOf("as 1 if (x;as 1"), 9, faultOf("as 1 if xx"),
                    9, faultOf("as 1 if x!x"), 9, faultOf("as 1 if x(x)"), 11, faultOf("as 1 if (x)x"));
        });
        says(0, "x (it is DERIVED), y<n, y>n (whole 365 DAYS since the AUTHOR of the ROOT died; 0 while it lives), m<n, m>n (MINUTES).", () -> {
            EngraversHouse x = score(4, 1);
            x.author();
            x.derive(0, 1, 4, 1);
            x.derive(1, 0, 4, 1);
            passTo(x, 1000);
            contract(x, 0, 0, "as 100 if x;as 10 if y<1;as 1 if y>0;ah 1 if m<5;ah 10 if m>5;ap 1 if y>1;ap 10 if y<2;life 999");
            dues(10, x.paid(0, 0, 9999, 0, 1000, 0, 0), 110, x.paid(1, 0, 9999, 0, 1000, 0, 0), 1, x.died(1, 0),
                    110, x.paid(1, 0, 9999, 0, 1000, 0, 0), 1, x.died(0, 100));
            dues(10, x.paid(0, 0, 0, 0, 1000, 0, 0), 10, x.paid(0, 0, 100, 0, 1000, 0, 0), 10, x.paid(0, 0, 464, 0, 1000, 0, 0),
                    1, x.paid(0, 0, 465, 0, 1000, 0, 0), 101, x.paid(2, 0, 465, 0, 1000, 0, 0), 10, x.paid(0, 0, 829, 2, 1000, 0, 0),
                    1, x.paid(0, 0, 830, 2, 1000, 0, 0));
            dues(1, x.paid(0, 0, 0, 1, 1000, 4, 0), 0, x.paid(0, 0, 0, 1, 1000, 5, 0), 10, x.paid(0, 0, 0, 1, 1000, 6, 0),
                    1, x.paid(0, 0, 0, 1, 1000, 0, 0), 10, x.paid(0, 0, 0, 1, 1000, 999, 0));
        });
        says(0, "A ( or ! within 5 others is none.", () -> {
            EngraversHouse x = new EngraversHouse();
            dues(0, contract(x, 0, 0, "as 1 if (((((x)))))"), 1, contract(x, 0, 0, "as 1 if !!!!!x"),
                    2, contract(x, 0, 0, "as 1 if !(!(!x))&!!!!(x)|(!(!(x)))"), 3, contract(x, 0, 0, "as 1 if (x)&(x)&(x)&(x)&(x)&(x)&!x"));
            dues(13, faultOf("as 1 if ((((((x))))))"), 13, faultOf("as 1 if !!!!!!x"), 13, faultOf("as 1 if !(!(!(x)))"),
                    13, faultOf("as 1 if (((((!x)))))"), 13, faultOf("as 1 if !!!!!("), 23, faultOf("as 1 if (x|((!(x|x&m<1&(x"));
        });
        says(0, "One blank stands between as and 120, life and n, least and n; none else but as told.", () -> {
            dues(2, faultOf("as1"), 3, faultOf("as  1"), 1, faultOf("a s 1"), 0, faultOf(" as 1"), 5, faultOf("as 1 "),
                    5, faultOf("as 1 ;as 1"), 5, faultOf("as 1; as 1"), 4, faultOf("life1"), 5, faultOf("life  1"), 5, faultOf("least1"),
                    6, faultOf("least  1"), 6, faultOf("life 1 "), 5, faultOf("as 1  if x"), 7, faultOf("as 1 ifx"),
                    8, faultOf("as 1 if  x"), 9, faultOf("as 1 if x "), 9, faultOf("as 1 if x &x"), 10, faultOf("as 1 if x& x"),
                    9, faultOf("as 1 if ( x)"), 9, faultOf("as 1 if ! x"), 9, faultOf("as 1 if y <1"), 10, faultOf("as 1 if y< 1"));
        });
        says(0, "The FAULT: the place of the first byte with which none begins so (the end of THE TEXT, if it ends too early).", () -> {
            Object[][] wholes = {{"ah 12 if x&y<3|(!m>9)", 4, 5, 10, 14, 21}, {"life 10", 6, 7}, {"least 5", 7}, {"rp 1", 4}};
            for (Object[] row : wholes) {
                String whole = (String) row[0];
                for (int k = 0; k <= whole.length(); k++) {
                    boolean ends = List.of(row).contains(k);
                    EngraversHouse x = new EngraversHouse();
                    dues(ends ? 0 : -10 - k, contract(x, 0, 0, whole.substring(0, k)), 0, x.count(4), ends ? 1 : 0, x.count(3));
                    dues(k, faultOf(whole.substring(0, k) + "?" + whole.substring(k)), k, faultOf(whole.substring(0, k) + (char) 0),
                            k, faultOf(whole.substring(0, k) + (char) 255));
                }
            }
        });
        says(0, "life: the last such clause (without: 10); least likewise (0).", () -> {
            EngraversHouse x = new EngraversHouse();
            dues(10, x.lawful(0, 0, 1), 0, x.lawful(0, 0, 2), 0, contract(x, 0, 0, "as 1"), 10, x.lawful(0, 0, 1), 0, x.lawful(0, 0, 2),
                    1, contract(x, 0, 0, "life 3;least 4;life 5;least 6"), 5, x.lawful(0, 0, 1), 6, x.lawful(0, 0, 2),
                    2, contract(x, 0, 0, "life 0;least 9;least 0"), 0, x.lawful(0, 0, 1), 0, x.lawful(0, 0, 2),
                    3, contract(x, 0, 0, "ap 1"), 10, x.lawful(0, 0, 1));
        });
        says(0, "it lives then, or less than life times 365 DAYS went by since it died (by THE CONTRACT of that DAY).", () -> {
            EngraversHouse x = score(4, 1);
            passTo(x, 9999);
            contract(x, 0, 0, "life 2");
            contract(x, 0, 831, "life 3");
            contract(x, 1, 0, "life 0");
            contract(x, 2, 0, "life 999");
            dues(1, x.right(0, 1, 9999), 1, x.died(0, 100), 1, x.right(0, 0, 0), 1, x.right(0, 0, 100), 1, x.right(0, 0, 829),
                    0, x.right(0, 0, 830), 1, x.right(0, 0, 831), 1, x.right(0, 0, 100 + 1094), 0, x.right(0, 0, 100 + 1095),
                    1, x.right(0, 1, 99), 0, x.right(0, 1, 100), 1, x.right(0, 2, 9999), 1, x.right(0, 3, 100 + 3649),
                    0, x.right(0, 3, 100 + 3650));
        });
    }

    private static void paidTerms() {
        says(0, "each of a and r (r of a DERIVED alone) with RIGHT gets of the sum so many thousandths, cut, as all its clauses of that act whose E holds (or that have none) say together,", () -> {
            EngraversHouse x = score(4, 1);
            x.author();
            x.derive(0, 1, 4, 1);
            passTo(x, 500);
            contract(x, 0, 0, "as 1;as 1 if m<5;as 500 if m>5;rs 333;rs 333;rh 5;life 1");
            dues(2, x.paid(0, 0, 0, 0, 1000, 0, 0), 1, x.paid(0, 0, 0, 0, 999, 0, 0), 0, x.paid(0, 0, 0, 0, 499, 0, 0),
                    1, x.paid(0, 0, 0, 0, 500, 0, 0), 1, x.paid(0, 0, 0, 0, 1000, 5, 0), 501, x.paid(0, 0, 0, 0, 1000, 6, 0),
                    0, x.paid(0, 0, 0, 0, 1000, 0, 1), 666, x.paid(1, 0, 0, 0, 1000, 0, 1), 665, x.paid(1, 0, 0, 0, 999, 0, 1),
                    0, x.paid(1, 0, 0, 2, 999, 0, 1), 4, x.paid(1, 0, 0, 1, 999, 0, 1), 0, x.paid(1, 0, 0, 1, 999, 0, 0));
            dues(1, x.died(0, 0), 2, x.paid(0, 0, 364, 0, 1000, 0, 0), 0, x.paid(0, 0, 365, 0, 1000, 0, 0),
                    666, x.paid(1, 0, 365, 0, 1000, 0, 1), 334, x.paid(1, 0, 365, 0, 1000, 0, 2), 1, x.died(1, 1),
                    666, x.paid(1, 0, 365, 0, 1000, 0, 1), 0, x.paid(1, 0, 366, 0, 1000, 0, 1), 1000, x.paid(1, 0, 366, 0, 1000, 0, 2));
        });
        says(0, "but least n at least, if one of its clauses of that act holds; and never more than is left (a ahead of r); the house the rest.", () -> {
            EngraversHouse x = score(4, 1);
            x.author();
            x.derive(0, 1, 4, 1);
            contract(x, 0, 0, "as 100;rs 100;ah 0;rh 0 if m>0;ap 999;rp 999;least 50");
            dues(50, x.paid(1, 0, 0, 0, 499, 0, 0), 50, x.paid(1, 0, 0, 0, 499, 0, 1), 399, x.paid(1, 0, 0, 0, 499, 0, 2),
                    51, x.paid(1, 0, 0, 0, 510, 0, 0), 49, x.paid(1, 0, 0, 0, 49, 0, 0), 0, x.paid(1, 0, 0, 0, 49, 0, 1),
                    0, x.paid(1, 0, 0, 0, 49, 0, 2), 50, x.paid(1, 0, 0, 0, 99, 0, 0), 49, x.paid(1, 0, 0, 0, 99, 0, 1),
                    0, x.paid(1, 0, 0, 0, 99, 0, 2), 0, x.paid(1, 0, 0, 0, 0, 0, 0), 0, x.paid(1, 0, 0, 0, 0, 0, 1),
                    0, x.paid(1, 0, 0, 0, 0, 0, 2));
            dues(50, x.paid(1, 0, 0, 1, 1000, 0, 0), 0, x.paid(1, 0, 0, 1, 1000, 0, 1), 50, x.paid(1, 0, 0, 1, 1000, 1, 1),
                    900, x.paid(1, 0, 0, 1, 1000, 1, 2), 950, x.paid(0, 0, 0, 1, 1000, 1, 2));
            dues(99900, x.paid(1, 0, 0, 2, 100000, 0, 0), 100, x.paid(1, 0, 0, 2, 100000, 0, 1), 0, x.paid(1, 0, 0, 2, 100000, 0, 2));
            contract(x, 1, 0, "as 999;as 999;as 999;as 999;as 999;as 999;as 999;as 999");
            dues(100000, x.paid(1, 1, 0, 0, 100000, 0, 0), 0, x.paid(1, 1, 0, 0, 100000, 0, 1), 0, x.paid(1, 1, 0, 0, 100000, 0, 2));
        });
    }

    // ---- terms: hire, prints, proofs

    private static void hireTerms() {
        says(0, "TOWNS 0 .. 5; WAYS between two of DAYS (0 .. 99; 1 at first; either way the same; 0 within one).", () -> {
            EngraversHouse x = withSet();
            for (int a = 0; a < 6; a++) {
                for (int b = 0; b < 6; b++) {
                    dues(a == b ? BAD : a < b ? 1 : 10 * b + a, x.way(a, b, a < b ? 10 * a + b : 1));
                }
            }
            dues(NONE, x.way(6, 0, 1), NONE, x.way(0, 6, 1), NONE, x.stands(2, 6), BAD, x.way(0, 1, 100), BAD, x.way(0, 1, -1),
                    1, x.way(0, 1, 0), 0, x.way(1, 0, 99), 99, x.way(0, 1, 99));
            dues(0, x.ask(0, 0, 0, 1), 1, x.ask(1, 99, 99, 1), 2, x.ask(1, 98, 98, 9), 1, x.hire(2, 0), 1, x.hire(2, 1),
                    99, x.way(1, 0, 98), 10, x.hire(2, 0), 6, x.hire(2, 1), 98, x.way(0, 1, 97), 11, x.hire(2, 0), 7, x.hire(2, 1));
        });
        says(0, "ASKS 0 .. 8, as they come: a TOWN, from a DAY to a DAY, a WORTH (0 .. 999).", () -> {
            EngraversHouse x = withSet();
            dues(BAD, x.ask(0, 0, 0, 1000), BAD, x.ask(0, 0, 0, -1), NONE, x.ask(6, 0, 0, 0), BAD, x.ask(0, 1, 0, 0));
            for (int k = 0; k < 9; k++) {
                dues(k, x.ask(k % 6, 10 * k, 10 * k, 999));
            }
            dues(FULL, x.ask(0, 500, 500, 0), 9, x.count(6), 9 * 999, x.hire(2, 0), 511, x.hire(2, 1));
        });
        says(0, "A SET is in a TOWN (0 at first).", () -> {
            EngraversHouse x = withSet();
            x.ask(0, 0, 0, 7);
            x.ask(5, 0, 0, 8);
            dues(7, x.hire(2, 0), 0, x.stands(2, 5), 8, x.hire(2, 0), 2, x.hire(2, 1), 5, x.stands(2, 5));
        });
        says(0, "SERVED: a set of ASKS, in the order of their first DAYS (of several of their numbers): the SET goes (always by the WAY between two) from where it is from TODAY on, and is in each TOWN by its first DAY; it leaves on the DAY behind the last one.", () -> {
            EngraversHouse x = withSet();
            x.way(0, 1, 2);
            x.way(1, 2, 5);
            x.pass(10);
            dues(0, x.ask(1, 11, 11, 50), 1, x.ask(1, 12, 20, 1), 2, x.ask(2, 25, 25, 50), 3, x.ask(2, 26, 26, 2), 4, x.ask(2, 27, 27, 4),
                    5, x.ask(2, 27, 9999, 100), 6, x.ask(0, 9, 9, 500), 7, x.ask(2, 9999, 9999, 3));
            dues(152, x.hire(2, 0), 4 + 8 + 32, x.hire(2, 1), 13, x.pass(3), 152, x.hire(2, 0));
            x.askless();
            dues(0, x.ask(1, 15, 20, 1), 1, x.ask(2, 26, 26, 2), 2, x.ask(2, 25, 26, 2), 3, x.hire(2, 0), 3, x.hire(2, 1), 14, x.pass(1),
                    2, x.hire(2, 0), 2, x.hire(2, 1));
        });
        says(0, "THE BEST: the most WORTH; of several the fewest ASKS, then the least as bits.", () -> {
            EngraversHouse x = withSet();
            dues(0, x.hire(2, 0), 0, x.hire(2, 1), 0, x.ask(0, 0, 0, 0), 0, x.hire(2, 0), 0, x.hire(2, 1), 1, x.ask(0, 1, 1, 3),
                    2, x.ask(0, 2, 2, 4), 3, x.ask(0, 1, 2, 7), 7, x.hire(2, 0), 8, x.hire(2, 1), 4, x.ask(0, 2, 3, 7), 10, x.hire(2, 0),
                    2 + 16, x.hire(2, 1), 5, x.ask(0, 1, 2, 10), 10, x.hire(2, 0), 32, x.hire(2, 1), 6, x.ask(0, 1, 3, 10),
                    10, x.hire(2, 0), 32, x.hire(2, 1));
        });
    }

    private static void printTerms() {
        says(0, "MONTHS 0 .. 9, as they are told: how many copies are asked in each (0 .. 999).", () -> {
            EngraversHouse x = months(0, 0, 9999);
            dues(BAD, x.month(-1), BAD, x.month(1000));
            for (int k = 1; k <= 10; k++) {
                dues(k, x.month(k == 10 ? 999 : 0));
            }
            dues(FULL, x.month(0), 10, x.count(7), 1, x.prints(1), 0, x.prints(0));
        });
        says(0, "copies for that and the next ones up to the next print are made (none is ever short); no more than MOST at once (1 .. 9999; 9999 at first).", () -> {
            EngraversHouse x = new EngraversHouse();
            for (int k = 0; k < 10; k++) {
                x.month(999);
            }
            dues(0, x.prints(0), 1, x.prints(1), 10, x.costs(7, 0, 9999));
            for (int k = 0; k < 10; k++) {
                x.month(999);
            }
            dues(7, x.prints(0), 1, x.prints(1), BAD, x.costs(7, 0, 10000), BAD, x.costs(7, 0, 0), 10, x.count(7));
            EngraversHouse one = months(5, 0, 1, 1, 0, 1);
            dues(10, one.prints(0), 1 + 2, one.prints(1), 4, one.month(2), STATE, one.prints(0));
            EngraversHouse most = months(5, 0, 10, 4, 6);
            dues(5, most.prints(0), 1, most.prints(1), 3, most.month(1), 10, most.prints(0), 1 + 2, most.prints(1), 3, most.costs(5, 0, 9),
                    1, most.month(4), 2, most.month(6), 10, most.prints(0), 3, most.prints(1));
        });
        says(0, "COST: SETUP (0 .. 9999) for each, HOLD (0 .. 99) for each copy and MONTH for which it lies behind the MONTH of its print till that in which it is asked; both 0 at first.", () -> {
            EngraversHouse x = new EngraversHouse();
            dues(BAD, x.costs(-1, 0, 1), BAD, x.costs(10000, 0, 1), BAD, x.costs(0, -1, 1), BAD, x.costs(0, 100, 1), 1, x.month(999),
                    2, x.month(999), 0, x.prints(0), 1, x.prints(1));
            EngraversHouse dear = months(9999, 99, 9999, 1, 0, 50, 101);
            dues(99 * 2 * 50 + 2 * 9999, dear.prints(0), 1 + 8, dear.prints(1));
            EngraversHouse farther = months(9999, 99, 9999, 1, 0, 0, 0, 0, 0, 0, 0, 0, 11);
            dues(9999 + 9 * 11 * 99, farther.prints(0), 1, farther.prints(1));
            EngraversHouse once = months(9999, 0, 9999, 999, 999, 999, 999, 999, 999, 999, 999, 999, 999);
            dues(9999, once.prints(0), 1, once.prints(1));
            EngraversHouse each = months(9999, 99, 999, 999, 999, 999, 999, 999, 999, 999, 999, 999, 999);
            dues(99990, each.prints(0), 1023, each.prints(1));
        });
        says(0, "THE BEST PRINTS: the least COST, of several the fewest prints, then the least as bits (bit k: MONTH k).", () -> {
            EngraversHouse x = months(4, 1, 99, 0, 3, 4);
            dues(8, x.prints(0), 2, x.prints(1));
            EngraversHouse y = months(4, 1, 99, 3, 3, 4);
            dues(11, y.prints(0), 1 + 4, y.prints(1));
            EngraversHouse z = months(0, 0, 5, 3, 3, 3);
            dues(0, z.prints(0), 7, z.prints(1));
            EngraversHouse bits = months(6, 0, 4, 2, 2, 2, 2, 2);
            dues(18, bits.prints(0), 1 + 2 + 8, bits.prints(1));
            EngraversHouse none = new EngraversHouse();
            dues(0, none.prints(0), 0, none.prints(1), 1, none.month(0), 0, none.prints(0), 0, none.prints(1));
        });
        says(0, "MONTHS in which none is asked may be printed in, too, but each print makes some copies.", () -> {
            EngraversHouse x = months(3, 0, 99, 0, 0, 5);
            dues(3, x.prints(0), 1, x.prints(1));
            EngraversHouse y = months(0, 1, 99, 0, 2, 0, 2, 0);
            dues(0, y.prints(0), 2 + 8, y.prints(1));
            EngraversHouse z = months(1, 1, 99, 0, 0, 0);
            dues(0, z.prints(0), 0, z.prints(1));
        });
    }

    private static void proofTerms() {
        says(0, "PROOFS of a PLATE by HANDS 0 .. 3: which of its BARS (bits, the first one is bit 0) a HAND marked; the latest counts.", () -> {
            EngraversHouse x = row(10);
            x.plate(1, 2, 9);
            x.mend(2, 2, 0, 60);
            x.mend(2, 9, 0, 60);
            dues(NONE, x.proof(4, 2, 0), NONE, x.proof(-1, 2, 0), BAD, x.proof(0, 2, 256), BAD, x.proof(0, 2, -1), 1, x.proof(0, 2, 1),
                    1, x.proof(3, 2, 128), 2, x.proof(3, 2, 255), 0, x.proof(3, 2, 126), 2, x.missed(3, 2), 1, x.missed(0, 2),
                    1, x.proof(0, 2, 3), 1, x.missed(0, 2), 0, x.proof(0, 2, 0), 2, x.missed(0, 2), STATE, x.missed(1, 2));
        });
        says(0, "LEFT: by two HANDS that marked n, m BARS, b of these both: n m by b, less n and m and more b (what is left of what they marked between them): a fraction (none, if b is 0).", () -> {
            for (int one = 0; one < 256; one += 5) {
                EngraversHouse x = row(8);
                x.plate(1, 0, 7);
                for (int other = 0; other < 256; other += 7) {
                    x.proof(0, 2, one);
                    x.proof(1, 2, other);
                    long n = Integer.bitCount(one), m = Integer.bitCount(other), b = Integer.bitCount(one & other);
                    long above = x.left(2, 0, 1, 0), below = x.left(2, 0, 1, 1);
                    if (b == 0) {
                        dues(NO, above, NO, below, NO, x.left(2, 1, 0, 1));
                    } else {
                        dues((n * m - b * n - b * m + b * b) * below, above * b, above, x.left(2, 1, 0, 0), 1, below > 0 ? 1 : 0);
                        for (int d = 2; d <= 8; d++) {
                            dues(0, above % d == 0 && below % d == 0 ? d : 0);
                        }
                    }
                }
            }
        });
        says(0, "MISSED by a HAND: in how many BARS the PLATE DIFFERS now that it did not mark.", () -> {
            EngraversHouse x = row(3);
            x.plate(1, 0, 2);
            dues(0, x.proof(0, 2, 1), 0, x.missed(0, 2), 1, x.alter(0, 0, 0, 0, 60), 0, x.missed(0, 2), 2, x.alter(0, 0, 1, 0, 60),
                    1, x.missed(0, 2), 3, x.mend(2, 2, 0, 60), 2, x.missed(0, 2), 2, x.mend(2, 1, 0, 60), 1, x.missed(0, 2),
                    1, x.proof(0, 2, 4), 1, x.missed(0, 2));
        });
    }

    // ---- terms: acts, tapes, answers

    private static void actTerms() {
        says(0, "ACTS of THINGS, with x (wrapping): 0 holds, 1 turns, 2 earns; n its number.", () -> {
            EngraversHouse x = Probe.house();
            for (int v : new int[] {MIN, MIN + 1, -1, 0, 1, MAX - 8, MAX - 1, MAX, 1 << 30, 0x5A5A5A5A}) {
                int part = (v + 1) * 2, set = (v + 4) * 2 + 1, derived = (v + 5) * 2, turned = -(((set ^ 3)) + (1 + 4) * 2 + 1);
                dues(v * 2, x.act(0, 0, v), part, x.act(1, 0, v), v + 2, x.act(2, 0, v), v + 4 + 3, x.act(3, 0, v), set, x.act(4, 0, v),
                        derived, x.act(5, 0, v), v + 6, x.act(6, 0, v));
                dues((v * 2) ^ 3, x.act(0, 1, v), (part ^ 3) + (1 + 1) * 2, x.act(1, 1, v), (v + 2) ^ 3, x.act(2, 1, v),
                        (v + 7) ^ 3, x.act(3, 1, v), turned, x.act(4, 1, v), derived ^ 3, x.act(5, 1, v),
                        (v + 6) - ((v + 6) ^ 3), x.act(6, 1, v));
                dues(((v * 2) ^ 3) - v, x.act(0, 2, v), (part ^ 3) + 4 - v, x.act(1, 2, v), ((v + 2) ^ 3) - v + 7, x.act(2, 2, v),
                        ((v + 7) ^ 3) - v, x.act(3, 2, v), turned - v, x.act(4, 2, v), ((derived ^ 3) - v) ^ derived, x.act(5, 2, v),
                        (v + 6) - ((v + 6) ^ 3) - v, x.act(6, 2, v));
            }
        });
        says(0, "holds(..) and so on: the body of its KIND, or, if that has none, of the next KIND above that has one; super.holds(..): so from the KIND above the body's on.", () -> {
            int[][][] runs = {{{20, 10}, {11, 20, 10}, {12, 11, 20, 10}}, {{20, 10}, {30, 11, 20, 10, 20, 10}, {12, 30, 11, 20, 10, 20, 10}}, {{10}, {11, 10}, {40, 12, 11, 10}}, {{50, 10}, {11, 50, 10}, {12, 11, 50, 10}},
                {{61, 20, 10}, {60, 30, 11, 61, 20, 10, 61, 20, 10}, {12, 60, 30, 11, 61, 20, 10, 61, 20, 10}}, {{20, 10}, {11, 20, 10}, {70, 12, 11, 20, 10, 20, 10}}, {{10}, {80, 10, 11, 10}, {12, 80, 10, 11, 10}}};
            EngraversHouse x = Probe.house();
            for (int t = 0; t < runs.length; t++) {
                for (int act = 0; act < 3; act++) {
                    x.act(t, act, 5);
                    dues(runs[t][act].length, x.count(8));
                    for (int k = 0; k < runs[t][act].length; k++) {
                        dues(runs[t][act][k], x.trace(k));
                    }
                    dues(NONE, x.trace(runs[t][act].length));
                }
            }
        });
        says(0, "THE TRACE: the numbers of the bodies that ran in the latest act(), as they began; the first 20 are kept.", () -> {
            EngraversHouse x = Probe.house();
            x.act(4, 2, 1);
            dues(10, x.count(8), 12, x.trace(0), 10, x.trace(9), NONE, x.trace(10), NONE, x.trace(19), NONE, x.trace(20),
                    6, x.act(0, 0, 3), 2, x.count(8), 20, x.trace(0), 10, x.trace(1), NONE, x.trace(2));
            for (int t = 0; t < 13; t++) {
                for (int act = 0; act < 3; act++) {
                    x.act(t, act, t);
                    dues(1, x.count(8) <= 20 ? 1 : 0, 10, x.trace(x.count(8) - 1), NONE, x.trace(x.count(8)));
                }
            }
        });
    }

    private static void tapeTerms() {
        says(0, "TAPES 0 .. 5 hold nothing (at first), or a row of 0 bytes, 1 shorts, 2 ints, 3 booleans (items 0, 1).", () -> {
            EngraversHouse x = new EngraversHouse();
            for (int tape = 0; tape < 6; tape++) {
                dues(NOTHING, x.item(tape, 0, 0), NO, x.read(tape, 0), NOTHING, x.shift(tape, 0, tape, 0, 0), 1, x.tape(tape, tape % 4, 2),
                        1, x.item(tape, 1, -2), tape % 4 == 3 ? 1 : -2, x.read(tape, 1), 0, x.read(tape, 0));
            }
            dues(NONE, x.tape(6, 0, 1), NONE, x.tape(-1, 0, 1), 1, x.tape(3, -1, 0), NOTHING, x.item(3, 0, 0));
        });
        says(0, "NOTHING (-11): nothing is there; CAST (-12): another sort or KIND; PLACE (-13): no such place; SIZE (-14): a size below 0.", () -> {
            EngraversHouse x = Probe.house();
            dues(-11, x.taken(13, 0), -11, x.item(3, 0, 0), -11, x.shift(0, 0, 3, 0, 0), -12, x.taken(0, 2), -12, x.shift(0, 0, 1, 0, 1),
                    -12, x.idle(0), -13, x.item(0, 10, 0), -13, x.shift(0, 0, 2, 6, 1), -14, x.tape(0, 0, -1));
        });
        says(0, "Answers: NONE (-1) no such number; BAD (-2) a number is not as told; STATE (-3) as told; FULL (-4); the first that a call's words name. What is answered so changes nothing.", () -> {
            EngraversHouse x = Probe.house();
            Probe.fill(x);
            dues(-1, EngraversHouse.NONE, -2, EngraversHouse.BAD, -3, EngraversHouse.STATE, -4, EngraversHouse.FULL,
                    NONE, x.score(2, 1, 0), BAD, x.score(1, 1, 0), FULL, x.score(1, 2, 1), NONE, x.erratum(60, 0, 20, 0, 0, 0),
                    BAD, x.erratum(3, 0, 20, 0, 0, 0), FULL, x.erratum(3, 0, 19, 0, 1, 1), 60, x.count(2), 1, x.of(3, 3));
            dues(NONE, x.died(2, 101), BAD, x.died(1, 101), 1, x.died(1, 100), BAD, x.died(1, 101), STATE, x.died(1, 100));
        });
        says(0, "A THING that a call wants of some KIND: NONE, if there is no such THING; CAST, if it is not of that KIND nor of one under it (PART: also SETS; SCORE here: SCORES and DERIVED ones alone);", () -> {
            EngraversHouse x = Probe.house();
            dues(NONE, x.plate(13, 0, 0), CAST, x.plate(0, 0, 0), CAST, x.plate(5, 0, 0), 13, x.plate(4, 0, 0), CAST, x.bars(1, 0),
                    CAST, x.bars(4, 0), 0, x.bars(5, 0), CAST, x.bars(3, 0), CAST, x.derive(4, 0, 4, 1), CAST, x.paid(4, 0, 0, 0, 0, 0, 0),
                    CAST, x.hire(1, 0), 14, x.set(4));
        });
        says(0, "what hangs on it (VOICE, BAR, NOTE, bits) is looked at behind that, NONE of it, too (but the VOICES 0 .. 3 of printed(), erratum(), changes(), and a what wherever one is told, hang on nothing: ahead).", () -> {
            EngraversHouse x = Probe.house();
            dues(CAST, x.note(1, 9, 99, 99, 9), NONE, x.note(0, 9, 99, 99, 9), CAST, x.alter(2, 9, 99, 99, 99),
                    NONE, x.alter(0, 0, 99, 0, 99), NONE, x.alter(0, 0, 0, 99, 99), CAST, x.bars(2, 9), CAST, x.part(3, 9, 99),
                    NONE, x.part(0, 9, 99), CAST, x.mend(1, 99, 99, 99), NONE, x.mend(2, 99, 0, 99), NONE, x.mend(2, 0, 99, 99),
                    CAST, x.music(1, 9, 0, 0, 99), NONE, x.music(1, 9, 6, 0, 99), CAST, x.proof(0, 1, 999), BAD, x.proof(0, 2, 999),
                    NONE, x.erratum(2, 4, 0, 0, 1, 1), CAST, x.erratum(2, 3, 0, 0, 1, 1), NONE, x.changes(2, 2, 4),
                    CAST, x.changes(2, 2, 3), NO_SUCH, x.printed(2, 4, 0, 0, 0));
            dues(NONE, x.differs(1, 2), CAST, x.differs(1, 1), NONE, x.pages(2, 0, 0, 5), CAST, x.pages(2, 0, 0, 10), NONE, x.hire(1, 2),
                    CAST, x.hire(1, 1), CAST, x.pages(0, 9, 1, MAX), NONE, x.pages(0, 9, 1, MIN));
        });
        says(0, "`NO = Long.MIN_VALUE`: There is no such number.", () -> dues(NO, EngraversHouse.NO, NO, new EngraversHouse().read(0, 0)));
    }

    // ---- promises: authors, scores

    private static void promises1to6() {
        says(1, "Nothing is there; TODAY is 0.", () -> {
            EngraversHouse x = new EngraversHouse();
            for (int what = 0; what <= 8; what++) {
                dues(0, x.count(what), NONE, x.trace(what));
            }
            for (int k = 0; k < 6; k++) {
                dues(-100, x.of(k, 0), NO, x.read(k, 0), NOTHING, x.item(k, 0, 0), NOTHING, x.taken(k, 0), NO_SUCH, x.heard(k, 0, 0),
                        NO_SUCH, x.hangs(k), NO_SUCH, x.printed(k, 0, 0, 0, 0));
            }
            dues(STATE, x.ended(), STATE, x.edition(), 0, x.askless(), 0, x.prints(0), 0, x.prints(1), 0, x.act(0, 0, 7),
                    -10, x.contract(0, 0), 0, x.costs(0, 0, 1), NONE, x.score(0, 4, 1), NONE, x.died(0, 0), -1, x.lawful(0, 0, 0),
                    10, x.lawful(3, 9999, 1), 0, x.lawful(0, 0, 2), 0, x.lawful(0, 0, 3));
        });
        says(2, "n DAYS go by (1 .. 400): TODAY. BAD: also beyond 9999.", () -> {
            EngraversHouse x = new EngraversHouse();
            dues(BAD, x.pass(0), BAD, x.pass(-1), BAD, x.pass(401), BAD, x.pass(MAX), BAD, x.pass(MIN), 0, x.count(0), 1, x.pass(1),
                    401, x.pass(400));
            passTo(x, 9601);
            dues(BAD, x.pass(399), BAD, x.pass(400), 9601, x.count(0), 9999, x.pass(398), BAD, x.pass(1), BAD, x.pass(MAX), BAD, x.pass(0),
                    9999, x.count(0));
        });
        says(3, "An AUTHOR: its number. FULL.", () -> {
            EngraversHouse x = new EngraversHouse();
            for (int k = 0; k < 12; k++) {
                dues(k, x.author());
            }
            dues(FULL, x.author(), FULL, x.author(), 12, x.count(1));
        });
        says(4, "It died on a DAY (TODAY at most): 1. NONE; BAD; STATE: it died already.", () -> {
            EngraversHouse x = new EngraversHouse();
            dues(NONE, x.died(0, 0), 0, x.author(), BAD, x.died(0, 1), BAD, x.died(0, -1), 9, x.pass(9), NONE, x.died(1, 5),
                    NONE, x.died(-1, 99), BAD, x.died(0, 10), 1, x.died(0, 9), STATE, x.died(0, 9), STATE, x.died(0, 0),
                    BAD, x.died(0, 10), 1, x.author(), 1, x.died(1, 0));
        });
        says(5, "A SCORE: its number. NONE: author; BAD; FULL.", () -> {
            EngraversHouse x = new EngraversHouse();
            x.author();
            dues(NONE, x.score(1, 4, 1), NONE, x.score(-1, 0, 0), BAD, x.score(0, 1, 1), BAD, x.score(0, 13, 1), BAD, x.score(0, 4, 0),
                    BAD, x.score(0, 4, 5));
            for (int k = 0; k < 60; k++) {
                dues(k, x.score(0, 2 + k % 11, 1 + k % 4), 2 + k % 11, x.of(k, 2), 1 + k % 4, x.of(k, 3));
            }
            dues(FULL, x.score(0, 4, 1), BAD, x.score(0, 13, 1), NONE, x.score(1, 4, 1), 60, x.count(2));
        });
        says(6, "A DERIVED from a SCORE by an ARRANGER: its number. NONE: score, author; CAST; BAD; FULL.", () -> {
            EngraversHouse x = row(1);
            dues(NONE, x.derive(2, 0, 4, 1), NONE, x.derive(-1, 0, 4, 1), NONE, x.derive(0, 1, 4, 1), NONE, x.derive(1, 1, 4, 1),
                    CAST, x.derive(1, 0, 1, 1), BAD, x.derive(0, 0, 1, 1), BAD, x.derive(0, 0, 13, 1), BAD, x.derive(0, 0, 2, 0),
                    BAD, x.derive(0, 0, 2, 5), 2, x.derive(0, 0, 2, 4), 3, x.derive(2, 0, 12, 1));
            Probe.fill(x);
            dues(FULL, x.derive(0, 0, 2, 1), FULL, x.derive(3, 0, 2, 1), BAD, x.derive(0, 0, 2, 5), CAST, x.derive(1, 0, 2, 5),
                    60, x.count(2));
        });
    }

    private static void promises7to12() {
        says(7, "NONE: score, voice; CAST; BAD: pitch, length, tied (0, 1), a rest that is TIED; STATE: it may not come; FULL: no room for a BAR.", () -> {
            EngraversHouse x = row(19);
            dues(NONE, x.note(2, 0, 1, 1, 0), NONE, x.note(-1, 0, 1, 1, 0), CAST, x.note(1, 1, 1, 1, 0), NONE, x.note(0, 1, 61, 1, 0),
                    NONE, x.note(0, -1, 1, 1, 0), BAD, x.note(0, 0, 61, 3, 0), BAD, x.note(0, 0, -1, 1, 0), BAD, x.note(0, 0, 1, 0, 0),
                    BAD, x.note(0, 0, 1, 13, 0), BAD, x.note(0, 0, 1, 1, 2), BAD, x.note(0, 0, 1, 1, -1), BAD, x.note(0, 0, 0, 1, 1),
                    STATE, x.note(0, 0, 1, 3, 0), 19, x.note(0, 0, 1, 1, 0), STATE, x.note(0, 0, 1, 2, 0), 20, x.note(0, 0, 0, 1, 0),
                    FULL, x.note(0, 0, 1, 1, 0), FULL, x.note(0, 0, 1, 2, 0), STATE, x.note(0, 0, 1, 3, 0), BAD, x.note(0, 0, 0, 1, 1),
                    20, x.bars(0, 0));
        });
        says(8, "A NOTE of a WHOLE BAR (the i-th as it came) that is no rest gets a PITCH: the one it had. NONE: score, voice, bar, i; CAST; BAD: pitch (1 .. 60); STATE: a rest.", () -> {
            EngraversHouse x = score(4, 1);
            notes(x, 0, 0, 5, 1, 1, 5, 1, 1, 5, 1, 0, 0, 1, 0, 9, 1, 0);
            x.part(0, 0, 0);
            dues(2, x.heard(1, 0, -1), 5, x.alter(0, 0, 0, 2, 60), 60, x.alter(0, 0, 0, 2, 1), STATE, x.alter(0, 0, 0, 3, 1),
                    NONE, x.alter(0, 0, 0, 4, 1), NONE, x.alter(0, 0, 0, -1, 1), NONE, x.alter(0, 0, 1, 0, 1),
                    NONE, x.alter(0, 0, -1, 0, 1), NONE, x.alter(0, 1, 0, 0, 1), NONE, x.alter(2, 0, 0, 0, 1),
                    CAST, x.alter(1, 0, 0, 0, 1), BAD, x.alter(0, 0, 0, 0, 0), BAD, x.alter(0, 0, 0, 0, 61), BAD, x.alter(0, 0, 0, 3, 0),
                    5, x.alter(0, 0, 0, 0, 5), 3, x.heard(1, 0, -1));
        });
        says(9, "n (1 .. 60) numbers: how many NOTES came. NONE: score, voice, tape; CAST; BAD: n; CAST, too: a row of another sort.", () -> {
            EngraversHouse x = score(12, 1);
            x.part(0, 0, 0);
            x.tape(0, 1, 60);
            for (int k = 0; k < 60; k++) {
                x.item(0, k, 104);
            }
            dues(NONE, x.music(2, 0, 0, 0, 1), NONE, x.music(1, 0, 6, 0, 1), NONE, x.music(0, 0, -1, 0, 1), CAST, x.music(1, 1, 0, 0, 0),
                    NONE, x.music(0, 1, 0, 0, 0), BAD, x.music(0, 0, 0, 0, 0), BAD, x.music(0, 0, 0, 0, 61), BAD, x.music(0, 0, 0, 0, MIN),
                    STATE, x.ended());
            for (int sort = 0; sort < 4; sort++) {
                x.tape(1, sort, 1);
                dues(BAD, x.music(0, 0, 1, 0, 0), sort == 1 ? 0 : CAST, x.music(0, 0, 1, 0, 1),
                        sort == 1 ? 0 : CAST, x.music(0, 0, 1, 7, 1));
            }
            dues(1, x.music(0, 0, 0, 59, 1), 60, x.music(0, 0, 0, 0, 60), 0, x.ended(), 10, x.bars(0, 0));
        });
        says(10, "Why the latest MUSIC that was not refused ended: 0 all came, 1 TORN, 2 no NOTE that may come, 3 no room. STATE: there was none.", () -> {
            EngraversHouse x = row(20);
            dues(STATE, x.ended(), BAD, x.music(0, 0, 0, 0, 0), STATE, x.ended(), 0, x.music(0, 0, 0, 0, 1), 1, x.ended());
            x.tape(0, 1, 2);
            x.item(0, 0, 102);
            dues(0, x.music(0, 0, 0, 0, 1), 3, x.ended(), 0, x.music(0, 0, 0, 1, 1), 2, x.ended(), BAD, x.music(0, 0, 0, 0, 61),
                    NONE, x.music(9, 0, 0, 0, 1), CAST, x.music(1, 0, 0, 0, 1), 2, x.ended(), 2, x.score(0, 2, 1),
                    1, x.music(2, 0, 0, 0, 1), 0, x.ended(), NONE, x.music(2, 1, 0, 0, 1), 0, x.ended());
        });
        says(11, "2 METER (of SCORES, DERIVED), VOICE (PARTS, PLATES, ERRATA), how many PLATES (EDITIONS), 3 VOICES, SHIFT, its first BAR (PLATES), how many ERRATA (EDITIONS), its BAR (ERRATA). -100: none such.", () -> {
            EngraversHouse x = score(2, 4);
            for (int k = 0; k < 20; k++) {
                x.note(0, 3, 1, 2, 0);
            }
            x.part(0, 3, -12);
            x.plate(1, 19, 19);
            x.press(2);
            x.edition();
            x.erratum(3, 3, 19, 7, 1, 60);
            x.set(1);
            x.derive(0, 0, 12, 1);
            int[][] told = {{1, 0, 2, 4}, {2, 0, 3, -12}, {3, 0, 3, 19}, {4, 0, 1, 1}, {7, 0, 3, 19}, {5, 0, 3, -12}, {6, 0, 12, 1}};
            for (int t = 0; t < told.length; t++) {
                for (int what = 0; what < 4; what++) {
                    dues(told[t][what], x.of(t, what));
                }
                dues(-100, x.of(t, -1), -100, x.of(t, 4), -100, x.of(t, MAX), -100, x.of(t, MIN));
            }
            dues(-100, x.of(-1, 0), -100, x.of(7, 0), -100, x.of(60, 1), -100, x.of(MAX, 2), -100, x.of(MIN, 3));
        });
        says(12, "How many BARS of a VOICE are WHOLE. NONE: score, voice; CAST.", () -> {
            EngraversHouse x = row(20);
            dues(20, x.bars(0, 0), NONE, x.bars(0, 1), NONE, x.bars(0, -1), NONE, x.bars(2, 0), NONE, x.bars(-1, 0), CAST, x.bars(1, 0),
                    CAST, x.bars(1, 9), 2, x.derive(0, 0, 4, 1), 0, x.bars(2, 0), 0, x.note(2, 0, 1, 3, 0), 0, x.bars(2, 0));
        });
    }

    private static void promises13to17() {
        says(13, "A PART: its number. NONE: score, voice; CAST; BAD: shift; FULL.", () -> {
            EngraversHouse x = row(1);
            dues(NONE, x.part(2, 0, 0), NONE, x.part(0, 1, 13), NONE, x.part(0, -1, 0), CAST, x.part(1, 9, 13), BAD, x.part(0, 0, 13),
                    BAD, x.part(0, 0, -13), BAD, x.part(0, 0, MIN), 2, x.part(0, 0, 12), 3, x.part(0, 0, -12));
            Probe.fill(x);
            dues(FULL, x.part(0, 0, 0), BAD, x.part(0, 0, 13), NONE, x.part(0, 1, 0), 60, x.count(2));
        });
        says(14, "how many NOTES (i -1); its i-th NOTE: 1000 times as much as PITCH and 100 more (of a rest 0 times), 2 times LENGTH more, 1 more if it is TIED. -5: none such, no PART.", () -> {
            EngraversHouse x = score(12, 1);
            notes(x, 0, 0, 60, 1, 1, 1, 1, 0, 0, 10, 0);
            x.part(0, 0, 0);
            dues(3, x.heard(1, 0, -1), 160003, x.heard(1, 0, 0), 101002, x.heard(1, 0, 1), 20, x.heard(1, 0, 2), NO_SUCH, x.heard(1, 0, 3),
                    NO_SUCH, x.heard(1, 0, -2), NO_SUCH, x.heard(1, 0, MIN), NO_SUCH, x.heard(1, 0, MAX), NO_SUCH, x.heard(1, 1, -1),
                    NO_SUCH, x.heard(1, -1, -1), NO_SUCH, x.heard(1, 20, -1), NO_SUCH, x.heard(1, MIN, 0), NO_SUCH, x.heard(0, 0, -1),
                    NO_SUCH, x.heard(2, 0, -1), NO_SUCH, x.heard(-1, 0, 0), 2, x.set(1), 3, x.heard(2, 0, -1), 3, x.plate(1, 0, 0),
                    NO_SUCH, x.heard(3, 0, -1));
        });
        says(15, "A PLATE of a PART, BARS a to b: its number. NONE: part; CAST; BAD: a, b; FULL.", () -> {
            EngraversHouse x = row(9);
            dues(NONE, x.plate(2, 0, 0), CAST, x.plate(0, 0, 9), BAD, x.plate(1, -1, 0), BAD, x.plate(1, 0, -1), BAD, x.plate(1, 1, 0),
                    BAD, x.plate(1, 0, 8), BAD, x.plate(1, 2, 9), BAD, x.plate(1, 9, 9), BAD, x.plate(1, MIN, MAX),
                    BAD, x.plate(1, MAX, MIN), BAD, x.plate(1, MAX, MAX), 2, x.plate(1, 0, 7), 3, x.plate(1, 1, 8), 4, x.plate(1, 8, 8),
                    5, x.plate(1, 0, 0));
            Probe.fill(x);
            dues(FULL, x.plate(1, 0, 0), BAD, x.plate(1, 0, 8), CAST, x.plate(2, 0, 8), 60, x.count(2));
        });
        says(16, "A NOTE of a PLATE is MENDED (bar: of the PART; its i-th): the PITCH that it had. NONE: plate, bar, i; CAST; BAD: pitch; STATE: a rest.", () -> {
            EngraversHouse x = score(4, 1);
            notes(x, 0, 0, 1, 4, 0, 5, 1, 1, 5, 1, 0, 0, 2, 0, 3, 4, 0);
            x.part(0, 0, -12);
            x.plate(1, 1, 1);
            dues(NONE, x.mend(3, 1, 0, 1), NONE, x.mend(-1, 1, 0, 1), CAST, x.mend(1, 0, 0, 0), NONE, x.mend(2, 0, 0, 0),
                    NONE, x.mend(2, 2, 0, 1), NONE, x.mend(2, 1, 2, 1), NONE, x.mend(2, 1, -1, 1), BAD, x.mend(2, 1, 1, 0),
                    BAD, x.mend(2, 1, 0, 73), STATE, x.mend(2, 1, 1, 72), -7, x.mend(2, 1, 0, 72), 72, x.mend(2, 1, 0, 1),
                    1, x.mend(2, 1, 0, 1));
        });
        says(17, "In how many BARS a PLATE DIFFERS (what 0), the first such BAR (1; NONE: there is none). NONE; CAST.", () -> {
            EngraversHouse x = row(9);
            x.plate(1, 1, 8);
            dues(0, x.differs(2, 0), NONE, x.differs(2, 1), 9, x.mend(2, 8, 0, 1), 1, x.differs(2, 0), 8, x.differs(2, 1),
                    2, x.mend(2, 1, 0, 1), 2, x.differs(2, 0), 1, x.differs(2, 1), NONE, x.differs(2, 2), NONE, x.differs(2, -1),
                    NONE, x.differs(3, 0), CAST, x.differs(1, 0), CAST, x.differs(0, 1), NONE, x.differs(0, 2));
            for (int bar = 1; bar <= 8; bar++) {
                x.mend(2, bar, 0, 60);
            }
            dues(8, x.differs(2, 0), 1, x.differs(2, 1));
        });
    }

    private static void promises18to24() {
        says(18, "A PLATE comes to THE PRESS: how many it has. NONE; CAST; STATE: of another SCORE than the first one; FULL.", () -> {
            EngraversHouse x = Probe.house();
            dues(NONE, x.press(13), NONE, x.press(-1), CAST, x.press(1), CAST, x.press(3), STATE, x.press(9), 2, x.press(12),
                    3, x.press(2), STATE, x.press(9));
            for (int k = 4; k <= 12; k++) {
                dues(k, x.press(2));
            }
            dues(FULL, x.press(2), STATE, x.press(9), CAST, x.press(1), NONE, x.press(13), 12, x.count(5), 13, x.edition(), 0, x.count(5),
                    1, x.press(9), STATE, x.press(2));
        });
        says(19, "AN EDITION of what is on THE PRESS (which is empty then): its number. STATE: nothing is; FULL.", () -> {
            EngraversHouse x = row(1);
            x.plate(1, 0, 0);
            dues(STATE, x.edition(), 1, x.press(2), 3, x.edition(), 0, x.count(5), STATE, x.edition(), 4, x.count(2), 1, x.press(2));
            Probe.fill(x);
            dues(FULL, x.edition(), 1, x.count(5), 2, x.press(2), FULL, x.edition(), 60, x.count(2));
            EngraversHouse y = row(1);
            y.plate(1, 0, 0);
            Probe.fill(y);
            dues(STATE, y.edition());
        });
        says(20, "(i -1: how many; of a BAR that it has not -5), AMENDED (1) or not (0). -5: none such.", () -> {
            EngraversHouse x = row(20);
            x.plate(1, 19, 19);
            int e = edition(x, 2);
            dues(1, x.printed(e, 0, 19, -1, 0), 1, x.printed(e, 0, 19, -1, 1), 120004, x.printed(e, 0, 19, 0, 1),
                    NO_SUCH, x.printed(e, 0, 19, 1, 0), NO_SUCH, x.printed(e, 0, 19, -2, 0), NO_SUCH, x.printed(e, 0, 18, -1, 0),
                    NO_SUCH, x.printed(e, 0, 20, -1, 0), NO_SUCH, x.printed(e, 0, -1, -1, 1), NO_SUCH, x.printed(e, 1, 19, -1, 0),
                    NO_SUCH, x.printed(e, 4, 0, -1, 0), NO_SUCH, x.printed(e, -1, 19, -1, 0), NO_SUCH, x.printed(e, 0, 19, -1, 2),
                    NO_SUCH, x.printed(e, 0, 19, 0, -1), NO_SUCH, x.printed(2, 0, 19, 0, 0), NO_SUCH, x.printed(4, 0, 19, 0, 0),
                    NO_SUCH, x.printed(-1, 0, 19, 0, 0), NO_SUCH, x.printed(e, MAX, MAX, MAX, 1), NO_SUCH, x.printed(e, MIN, MIN, MIN, 1));
            EngraversHouse y = voicesOfFullBars();
            int all = edition(y, 5, 6, 7, 8, 9, 10, 11, 12);
            for (int voice = 0; voice < 4; voice++) {
                dues(1, y.printed(all, voice, 0, -1, 0), 1, y.printed(all, voice, 19, -1, 1),
                        101 + voice, y.printed(all, voice, 0, 0, 0) / 1000, 101 + voice, y.printed(all, voice, 19, 0, 1) / 1000);
                for (int bar : new int[] {-2, -1, 20, 21, 22}) {
                    dues(NO_SUCH, y.printed(all, voice, bar, -1, 0), NO_SUCH, y.printed(all, voice, bar, 0, 0),
                            NO_SUCH, y.printed(all, voice, bar, 0, 1), NO_SUCH, y.heard(1 + voice, bar, 0),
                            NONE, y.alter(0, voice, bar, 0, 5));
                }
            }
        });
        says(21, "NONE: edition, voice (0 .. 3); CAST; BAD: bar (0 .. 19), i (0 .. 7), pitches; FULL.", () -> {
            EngraversHouse x = Probe.house();
            dues(NONE, x.erratum(13, 0, 0, 0, 1, 1), NONE, x.erratum(-1, 9, 0, 0, 1, 1), NONE, x.erratum(3, 4, 0, 0, 1, 1),
                    NONE, x.erratum(2, -1, 0, 0, 1, 1), CAST, x.erratum(2, 0, -1, 0, 1, 1), BAD, x.erratum(3, 0, -1, 0, 1, 1),
                    BAD, x.erratum(3, 0, 20, 0, 1, 1), BAD, x.erratum(3, 0, 0, -1, 1, 1), BAD, x.erratum(3, 0, 0, 8, 1, 1),
                    BAD, x.erratum(3, 0, 0, 0, 0, 1), BAD, x.erratum(3, 0, 0, 0, 61, 1), BAD, x.erratum(3, 0, 0, 0, 1, 0),
                    BAD, x.erratum(3, 0, 0, 0, 1, 61), 1, x.of(3, 3), 13, x.erratum(3, 3, 19, 7, 60, 60), 2, x.of(3, 3));
            Probe.fill(x);
            dues(FULL, x.erratum(3, 0, 0, 0, 1, 1), BAD, x.erratum(3, 0, 0, 0, 1, 61), CAST, x.erratum(2, 0, 0, 0, 1, 61),
                    NONE, x.erratum(2, 4, 0, 0, 1, 1), 2, x.of(3, 3), 60, x.count(2));
        });
        says(22, "Whether an ERRATUM is IDLE. NONE; CAST.", () -> {
            EngraversHouse x = Probe.house();
            dues(0, x.idle(6), NONE, x.idle(13), NONE, x.idle(-1), NONE, x.idle(MAX), CAST, x.idle(0), CAST, x.idle(3),
                    13, x.erratum(3, 0, 0, 0, 10, 5), 1, x.idle(13), 0, x.idle(6));
        });
        says(23, "CHANGES of two EDITIONS in a VOICE (-1: DISTANCE). NONE: editions, voice (0 .. 3); CAST; STATE: they are of unlike SCORES.", () -> {
            EngraversHouse x = Probe.house();
            int e = x.edition();
            dues(0, x.changes(3, e, 0), 0, x.changes(3, e, -1), NONE, x.changes(3, 14, 0), NONE, x.changes(14, 3, 0),
                    NONE, x.changes(3, e, 4), NONE, x.changes(3, e, -2), NONE, x.changes(2, 10, 4), NONE, x.changes(0, 14, 0),
                    CAST, x.changes(2, 10, 0), CAST, x.changes(10, 2, -1), CAST, x.changes(0, 0, 0), STATE, x.changes(3, 10, 0),
                    STATE, x.changes(10, 3, -1), STATE, x.changes(10, 3, 3), 0, x.changes(3, 3, 3));
        });
        says(24, "On which an EDITION hangs in THE TREE of its SCORE (NONE: it is the first). -5: none such.", () -> {
            EngraversHouse x = Probe.house();
            dues(NONE, x.hangs(3), NONE, x.hangs(10), 13, x.edition(), 3, x.hangs(13), NO_SUCH, x.hangs(0), NO_SUCH, x.hangs(2),
                    NO_SUCH, x.hangs(6), NO_SUCH, x.hangs(14), NO_SUCH, x.hangs(-1), NO_SUCH, x.hangs(MAX), NO_SUCH, x.hangs(MIN));
        });
    }

    private static void promises25to30() {
        says(25, "what 0 COST, 1 how many LINES, 10 and i: BARS in LINE i. NONE: part, what (2 to 9, below 0); CAST; BAD: width, lines; STATE: it has no BARS, or one is too wide; NONE: there is no LINE i.", () -> {
            EngraversHouse x = score(4, 2);
            notes(x, 0, 0, 1, 4, 0, 1, 2, 0, 2, 2, 0);
            x.part(0, 0, 0);
            x.part(0, 1, 0);
            for (int what : new int[] {2, 3, 8, 9, -1, -10, MIN}) {
                dues(NONE, x.pages(1, 13, 1, what), NONE, x.pages(0, 4, 0, what), NONE, x.pages(2, 13, 1, what));
            }
            dues(NONE, x.pages(3, 13, 1, 0), NONE, x.pages(-1, 13, 1, 0), CAST, x.pages(0, 4, 0, 0), CAST, x.pages(0, 13, 1, 99),
                    BAD, x.pages(1, 4, 1, 0), BAD, x.pages(1, 100, 1, 0), BAD, x.pages(2, 13, 0, 0), BAD, x.pages(2, 13, 5, 99),
                    STATE, x.pages(2, 13, 1, 0), STATE, x.pages(2, 99, 4, 99), STATE, x.pages(1, 7, 1, 0), STATE, x.pages(1, 7, 1, 99),
                    1009, x.pages(1, 8, 1, 0), 2, x.pages(1, 8, 1, 1), 1, x.pages(1, 8, 1, 10), 1, x.pages(1, 8, 1, 11),
                    NONE, x.pages(1, 8, 1, 12), NONE, x.pages(1, 8, 1, MAX), 0, x.pages(1, 13, 1, 0), 1, x.pages(1, 13, 1, 1),
                    2, x.pages(1, 13, 1, 10), NONE, x.pages(1, 13, 1, 11));
        });
        says(26, "The n lowest bytes of a number, the highest first (n 0 .. 4), come behind THE TEXT's: how many it has. BAD; FULL.", () -> {
            EngraversHouse x = new EngraversHouse();
            dues(BAD, x.feed(1, -1), BAD, x.feed(1, 5), BAD, x.feed(1, MIN), 0, x.feed(-1, 0), 4, x.feed(0x6C696665, 4),
                    6, x.feed(0xFFFF2037, 2), 7, x.feed(0xFFFFFF3B, 1), 10, x.feed(0xFF617020, 3), 11, x.feed('1', 1), 0, x.contract(0, 0),
                    7, x.lawful(0, 0, 1), 1, x.lawful(0, 0, 3));
            for (int k = 1; k <= 29; k++) {
                dues(4 * k, x.feed(0x80000000, 4));
            }
            dues(119, x.feed(0, 3), FULL, x.feed(0, 2), FULL, x.feed(0, 4), BAD, x.feed(0, 5), 119, x.feed(0, 0), 120, x.feed(0, 1),
                    FULL, x.feed(0, 1), 120, x.feed(0, 0), 120, x.count(4));
        });
        says(27, "THE TEXT, which is empty then, is a CONTRACT: its number; -10 less the FAULT. NONE: land; BAD: day; FULL (THE TEXT stays with these, which are ahead of the FAULT).", () -> {
            EngraversHouse x = new EngraversHouse();
            Probe.feed(x, "as?");
            dues(NONE, x.contract(4, 10000), NONE, x.contract(-1, 0), BAD, x.contract(0, -1), BAD, x.contract(0, 10000), 3, x.count(4),
                    -12, x.contract(0, 0), 0, x.count(4), -10, x.contract(0, 0), 0, x.count(3));
            for (int k = 0; k < 12; k++) {
                Probe.feed(x, "ap 1");
                dues(k, x.contract(3, 9999), 0, x.count(4));
            }
            dues(FULL, x.contract(0, 0), 3, x.feed(0x61733F, 3), FULL, x.contract(0, 0), BAD, x.contract(0, 10000), NONE, x.contract(4, 0),
                    3, x.count(4), 12, x.count(3));
            dues(-10 - 119, contract(new EngraversHouse(), 0, 0, "as 1 if " + "x|".repeat(55) + "x" + "?"),
                    -10 - 120, contract(new EngraversHouse(), 0, 0, "as 1 if " + "x|".repeat(56)));
        });
        says(28, "THE CONTRACT of a LAND on a DAY: what 0 its number (-1: none), 1 life, 2 least, 3 clauses but life and least. -5: none such.", () -> {
            EngraversHouse x = new EngraversHouse();
            contract(x, 3, 9999, "life 0;as 1;least 999;as 1;rh 2;life 1");
            dues(-1, x.lawful(3, 9998, 0), 10, x.lawful(3, 9998, 1), 0, x.lawful(3, 9998, 2), 0, x.lawful(3, 9998, 3),
                    0, x.lawful(3, 9999, 0), 1, x.lawful(3, 9999, 1), 999, x.lawful(3, 9999, 2), 3, x.lawful(3, 9999, 3),
                    -1, x.lawful(2, 9999, 0));
            x.author();
            dues(0, x.score(0, 4, 1), 999, x.paid(0, 3, 9999, 0, 1000, 0, 0), 3, x.lawful(3, 9999, 3), 1, x.lawful(3, 9999, 1),
                    999, x.lawful(3, 9999, 2));
            dues(NO_SUCH, x.lawful(4, 0, 0), NO_SUCH, x.lawful(-1, 0, 0), NO_SUCH, x.lawful(0, -1, 0), NO_SUCH, x.lawful(0, 10000, 0),
                    NO_SUCH, x.lawful(0, 0, 4), NO_SUCH, x.lawful(0, 0, -1), NO_SUCH, x.lawful(MAX, MAX, MAX),
                    NO_SUCH, x.lawful(MIN, MIN, MIN));
        });
        says(29, "Whether an AUTHOR has RIGHT. NONE: author, land; BAD: day (0 .. 9999).", () -> {
            EngraversHouse x = score(4, 1);
            dues(1, x.right(0, 0, 0), 1, x.right(0, 3, 9999), NONE, x.right(1, 0, 0), NONE, x.right(-1, 0, 10000),
                    NONE, x.right(0, 4, 10000), NONE, x.right(0, -1, 0), BAD, x.right(0, 0, -1), BAD, x.right(0, 0, 10000),
                    1, x.died(0, 0), 1, x.right(0, 0, 3649), 0, x.right(0, 0, 3650), 0, x.right(0, 0, 9999));
        });
        says(30, "PAID: of a (who 0), r (1), the house (2); act 0 sale, 1 hire, 2 playing. NONE: score, land, who; CAST; BAD: day, act, sum (0 .. 100000), minutes (0 .. 999).", () -> {
            EngraversHouse x = Probe.house();
            dues(NONE, x.paid(13, 0, 0, 0, 0, 0, 0), NONE, x.paid(1, 4, 0, 0, 0, 0, 0), NONE, x.paid(1, 0, 0, 0, 0, 0, 3),
                    NONE, x.paid(0, -1, 0, 0, 0, 0, 0), NONE, x.paid(0, 0, -1, 0, 0, 0, -1), CAST, x.paid(1, 0, -1, 9, -1, -1, 0),
                    BAD, x.paid(0, 0, -1, 0, 0, 0, 0), BAD, x.paid(0, 0, 10000, 0, 0, 0, 0), BAD, x.paid(0, 0, 0, -1, 0, 0, 0),
                    BAD, x.paid(0, 0, 0, 3, 0, 0, 0), BAD, x.paid(0, 0, 0, 0, -1, 0, 0), BAD, x.paid(0, 0, 0, 0, 100001, 0, 0),
                    BAD, x.paid(0, 0, 0, 0, 0, -1, 0), BAD, x.paid(0, 0, 0, 0, 0, 1000, 0));
            dues(0, x.paid(5, 0, 49, 0, 100000, 0, 0), 100000, x.paid(5, 0, 49, 0, 100000, 0, 2),
                    10000, x.paid(5, 0, 9999, 0, 100000, 0, 0), 90000, x.paid(5, 0, 50, 0, 100000, 0, 2),
                    0, x.paid(5, 0, 50, 0, 100000, 999, 0), 20000, x.paid(5, 0, 50, 1, 100000, 999, 1),
                    100000, x.paid(5, 3, 50, 2, 100000, 999, 2), 0, x.paid(5, 0, 50, 0, 0, 0, 2));
        });
    }

    private static void promises31to39() {
        says(31, "A SET of a PART: its number. NONE; CAST; FULL.", () -> {
            EngraversHouse x = row(1);
            dues(NONE, x.set(2), NONE, x.set(-1), CAST, x.set(0), 2, x.set(1), 3, x.set(2), 5, x.of(3, 0));
            Probe.fill(x);
            dues(FULL, x.set(1), CAST, x.set(0), NONE, x.set(60), 60, x.count(2));
        });
        says(32, "A SET is in a TOWN: in which it was. NONE: set, town; CAST.", () -> {
            EngraversHouse x = withSet();
            dues(NONE, x.stands(3, 0), NONE, x.stands(-1, 0), NONE, x.stands(1, 6), NONE, x.stands(2, 6), NONE, x.stands(2, -1),
                    CAST, x.stands(1, 5), CAST, x.stands(0, 0), 0, x.stands(2, 5), 5, x.stands(2, 0), 0, x.stands(2, 0));
        });
        says(33, "A WAY: what it was. NONE; BAD: one TOWN, days.", () -> {
            EngraversHouse x = new EngraversHouse();
            dues(NONE, x.way(6, 6, 100), NONE, x.way(-1, 0, 1), NONE, x.way(0, 6, 1), BAD, x.way(5, 5, 0), BAD, x.way(0, 0, 1),
                    BAD, x.way(0, 5, 100), BAD, x.way(0, 5, -1), 1, x.way(0, 5, 0), 0, x.way(5, 0, 99), 99, x.way(0, 5, 99),
                    1, x.way(0, 4, 1));
        });
        says(34, "AN ASK: its number. NONE: town; BAD: from (0 .. 9999), to (from .. 9999), worth; FULL.", () -> {
            EngraversHouse x = new EngraversHouse();
            dues(NONE, x.ask(6, -1, 0, 0), NONE, x.ask(-1, 0, 0, 0), BAD, x.ask(0, -1, 0, 0), BAD, x.ask(0, 10000, 10000, 0),
                    BAD, x.ask(0, 1, 0, 0), BAD, x.ask(0, 0, 10000, 0), BAD, x.ask(0, 9999, 9998, 0), BAD, x.ask(0, 0, 0, -1),
                    BAD, x.ask(0, 0, 0, 1000), BAD, x.ask(0, MIN, MAX, 0), 0, x.count(6));
            for (int k = 0; k < 9; k++) {
                dues(k, x.ask(5, k % 2 == 0 ? 0 : 9999, 9999, k % 2 == 0 ? 0 : 999));
            }
            dues(FULL, x.ask(0, 0, 0, 0), BAD, x.ask(0, 1, 0, 0), NONE, x.ask(6, 0, 0, 0), 9, x.count(6));
        });
        says(35, "All ASKS are gone: how many there were.", () -> {
            EngraversHouse x = withSet();
            dues(0, x.askless());
            for (int k = 0; k < 9; k++) {
                x.ask(0, k, k, 1);
            }
            dues(9, x.hire(2, 0), 9, x.askless(), 0, x.count(6), 0, x.hire(2, 0), 0, x.hire(2, 1), 0, x.askless(), 0, x.ask(0, 9, 9, 3),
                    3, x.hire(2, 0), 1, x.hire(2, 1), 1, x.askless());
        });
        says(36, "what 0 WORTH, 1 the set as bits. NONE: set, what; CAST.", () -> {
            EngraversHouse x = withSet();
            dues(NONE, x.hire(3, 0), NONE, x.hire(-1, 0), NONE, x.hire(2, 2), NONE, x.hire(2, -1), NONE, x.hire(1, 2), CAST, x.hire(1, 0),
                    CAST, x.hire(0, 1), 0, x.hire(2, 0), 0, x.hire(2, 1), 0, x.ask(5, 1, 1, 999), 999, x.hire(2, 0), 1, x.hire(2, 1));
        });
        says(37, "A MONTH more, with so many copies asked: how many MONTHS. BAD; FULL.", () -> {
            EngraversHouse x = new EngraversHouse();
            dues(BAD, x.month(-1), BAD, x.month(1000), BAD, x.month(MIN), BAD, x.month(MAX));
            for (int k = 1; k <= 10; k++) {
                dues(k, x.month(k % 2 == 0 ? 0 : 999));
            }
            dues(FULL, x.month(0), BAD, x.month(1000), 10, x.count(7), 10, x.costs(0, 0, 1), 1, x.month(0));
        });
        says(38, "SETUP, HOLD, MOST (MONTHS are gone then): how many MONTHS there were. BAD.", () -> {
            EngraversHouse x = new EngraversHouse();
            x.month(5);
            x.month(5);
            dues(BAD, x.costs(-1, 0, 1), BAD, x.costs(10000, 0, 1), BAD, x.costs(0, -1, 1), BAD, x.costs(0, 100, 1), BAD, x.costs(0, 0, 0),
                    BAD, x.costs(0, 0, 10000), BAD, x.costs(0, 0, MIN), 2, x.count(7), 0, x.prints(0), 2, x.costs(9999, 99, 9999),
                    0, x.count(7), 0, x.prints(0), 0, x.costs(0, 0, 1), 1, x.month(1), 1, x.costs(3, 2, 2), 1, x.month(2), 3, x.prints(0));
        });
        says(39, "what 0 COST, 1 the MONTHS as bits. NONE: what; STATE: a MONTH asks for more than MOST.", () -> {
            EngraversHouse x = months(5, 1, 9, 9, 0, 9);
            dues(10, x.prints(0), 5, x.prints(1), NONE, x.prints(2), NONE, x.prints(-1), 4, x.month(10), STATE, x.prints(0),
                    STATE, x.prints(1), NONE, x.prints(2), 4, x.count(7), 4, x.costs(5, 1, 9), 0, x.prints(0));
        });
    }

    private static void promises40to46() {
        says(40, "in how many of the BARS that the HAND marked it DIFFERS. NONE: hand, plate; CAST; BAD: bits.", () -> {
            EngraversHouse x = row(3);
            x.plate(1, 1, 2);
            x.mend(2, 2, 0, 60);
            dues(NONE, x.proof(4, 2, 0), NONE, x.proof(-1, 1, 9), NONE, x.proof(0, 3, 0), CAST, x.proof(0, 1, 9), BAD, x.proof(0, 2, 4),
                    BAD, x.proof(0, 2, -1), BAD, x.proof(0, 2, MAX), BAD, x.proof(0, 2, MIN), STATE, x.missed(0, 2), 0, x.proof(0, 2, 0),
                    0, x.proof(0, 2, 1), 1, x.proof(0, 2, 2), 1, x.proof(3, 2, 3));
        });
        says(41, "part 0 above, 1 below the line, without a common divisor, below above 0. NO: none such, one of the HANDS read no PROOF of it, b is 0, one HAND.", () -> {
            EngraversHouse x = row(8);
            x.plate(1, 0, 7);
            dues(NO, x.left(2, 0, 1, 0), 0, x.proof(0, 2, 0b00001111), NO, x.left(2, 0, 1, 0), NO, x.left(2, 1, 0, 1),
                    0, x.proof(1, 2, 0b11110000), NO, x.left(2, 0, 1, 0), 0, x.proof(1, 2, 0b00111100), 2, x.left(2, 0, 1, 0),
                    1, x.left(2, 0, 1, 1), 2, x.left(2, 1, 0, 0), NO, x.left(2, 0, 0, 0), NO, x.left(2, 4, 0, 0), NO, x.left(2, 0, -1, 0),
                    NO, x.left(2, 0, 1, 2), NO, x.left(2, 0, 1, -1), NO, x.left(3, 0, 1, 0), NO, x.left(1, 0, 1, 0),
                    NO, x.left(-1, 0, 1, 0), 0, x.proof(2, 2, 0b11111110), 4, x.left(2, 0, 2, 0), 3, x.left(2, 0, 2, 1),
                    0, x.proof(3, 2, 1), 0, x.left(2, 0, 3, 0), 1, x.left(2, 0, 3, 1), NO, x.left(2, 2, 3, 0), 0, x.proof(3, 2, 0),
                    NO, x.left(2, 0, 3, 1), 3, x.plate(1, 0, 7), NO, x.left(3, 0, 1, 0));
        });
        says(42, "NONE: hand, plate; CAST; STATE: it read no PROOF of it.", () -> {
            EngraversHouse x = row(2);
            x.plate(1, 0, 1);
            x.plate(1, 0, 1);
            dues(NONE, x.missed(4, 2), NONE, x.missed(-1, 1), NONE, x.missed(0, 4), NONE, x.missed(0, -1), CAST, x.missed(0, 1),
                    STATE, x.missed(0, 2), 0, x.proof(0, 2, 0), 0, x.missed(0, 2), STATE, x.missed(1, 2), STATE, x.missed(0, 3),
                    1, x.mend(2, 0, 0, 9), 1, x.missed(0, 2));
        });
        says(43, "0, and no TRACE then: no such THING, act.", () -> {
            EngraversHouse x = Probe.house();
            int[][] none = {{13, 0}, {-1, 0}, {60, 0}, {MAX, 1}, {MIN, 2}, {0, 3}, {0, -1}, {4, MAX}, {4, MIN}};
            for (int[] row : none) {
                dues(12, x.act(0, 0, 6), 2, x.count(8), 0, x.act(row[0], row[1], 6), 0, x.count(8), NONE, x.trace(0));
            }
        });
        says(44, "THE TRACE's i-th body. NONE.", () -> {
            EngraversHouse x = Probe.house();
            x.act(1, 0, 0);
            dues(20, x.trace(0), 10, x.trace(1), NONE, x.trace(2), NONE, x.trace(-1), NONE, x.trace(20), NONE, x.trace(MAX),
                    NONE, x.trace(MIN), NONE, new EngraversHouse().trace(0));
        });
        says(45, "A THING taken for one of KIND k (0 .. 7), or one under that (also by others between): its KIND. BAD: k; NOTHING: no such THING; CAST.", () -> {
            EngraversHouse x = Probe.house();
            dues(BAD, x.taken(13, 8), BAD, x.taken(0, -1), BAD, x.taken(0, MAX), NOTHING, x.taken(13, 0), NOTHING, x.taken(-1, 7),
                    NOTHING, x.taken(MIN, 1), 5, x.taken(4, 5), 5, x.taken(4, 2), 5, x.taken(4, 1), 5, x.taken(4, 0), CAST, x.taken(4, 6),
                    CAST, x.taken(1, 5), CAST, x.taken(0, 6), CAST, x.taken(5, 2), 6, x.taken(5, 1), CAST, x.taken(2, 1),
                    CAST, x.taken(6, 4), 7, x.taken(6, 7), 7, x.taken(6, 0));
        });
        says(46, "8 bodies that ran in the latest act() (all, kept or not). BAD.", () -> {
            EngraversHouse x = Probe.house();
            dues(100, x.count(0), 2, x.count(1), 13, x.count(2), 1, x.count(3), 4, x.count(4), 1, x.count(5), 2, x.count(6), 2, x.count(7),
                    9, x.count(8), BAD, x.count(9), BAD, x.count(-1), BAD, x.count(MAX), BAD, x.count(MIN));
        });
    }

    private static void promises47to50() {
        says(47, "A TAPE becomes a row of n (0 .. 60) of a sort, all 0, or holds nothing (sort -1: n does not matter): 1. NONE: tape; BAD: sort, n above 60; SIZE.", () -> {
            EngraversHouse x = new EngraversHouse();
            dues(NONE, x.tape(6, 4, 61), NONE, x.tape(-1, 0, 0), BAD, x.tape(0, 4, -1), BAD, x.tape(0, -2, 0), BAD, x.tape(0, 0, 61),
                    BAD, x.tape(0, 3, MAX), SIZE, x.tape(0, 0, -1), SIZE, x.tape(0, 2, MIN), NOTHING, x.item(0, 0, 0), 1, x.tape(0, 2, 60),
                    1, x.item(0, 59, 5), SIZE, x.tape(0, 2, -1), BAD, x.tape(0, 2, 61), 5, x.read(0, 59), 1, x.tape(0, 2, 60),
                    0, x.read(0, 59), 1, x.item(0, 0, 9), 1, x.tape(0, 3, 1), 0, x.read(0, 0), PLACE, x.item(0, 1, 1), 1, x.tape(0, 1, 0),
                    PLACE, x.item(0, 0, 1), NO, x.read(0, 0), 1, x.tape(0, -1, 61), NOTHING, x.item(0, 0, 1), 1, x.tape(0, -1, -1),
                    1, x.tape(5, -1, MIN), 1, x.tape(5, -1, MAX));
        });
        says(48, "(bytes, shorts: its lowest 8, 16 bits; booleans: whether v is not 0): 1. NONE; NOTHING; PLACE.", () -> {
            EngraversHouse x = new EngraversHouse();
            for (int sort = 0; sort < 4; sort++) {
                x.tape(sort, sort, 60);
            }
            int[] put = {0, 1, -1, 127, 128, 255, 256, -128, -129, 32767, 32768, 65535, 65536, -32768, -32769, MAX, MIN};
            for (int v : put) {
                long asByte = v & 255, asShort = v & 65535;
                dues(1, x.item(0, 59, v), asByte > 127 ? asByte - 256 : asByte, x.read(0, 59), 1, x.item(1, 0, v),
                        asShort > 32767 ? asShort - 65536 : asShort, x.read(1, 0), 1, x.item(2, 7, v), v, x.read(2, 7), 1, x.item(3, 9, v),
                        v == 0 ? 0 : 1, x.read(3, 9));
            }
            dues(NONE, x.item(6, 0, 0), NONE, x.item(-1, 99, 0), NOTHING, x.item(4, 99, 0), NOTHING, x.item(5, 0, 0),
                    PLACE, x.item(0, 60, 0), PLACE, x.item(3, -1, 0), PLACE, x.item(2, MAX, 0), PLACE, x.item(2, MIN, 0));
        });
        says(49, "Item i of a TAPE. NO: no such TAPE, nothing there, no such place.", () -> {
            EngraversHouse x = new EngraversHouse();
            x.tape(5, 2, 60);
            x.item(5, 59, MIN);
            x.item(5, 0, MAX);
            dues(MIN, x.read(5, 59), MAX, x.read(5, 0), NO, x.read(5, 60), NO, x.read(5, -1), NO, x.read(5, MAX), NO, x.read(5, MIN),
                    NO, x.read(6, 0), NO, x.read(-1, 0), NO, x.read(0, 0), 1, x.tape(5, 2, 0), NO, x.read(5, 0));
        });
        says(50, "n items of a TAPE from i on come to another one (or the same) from j on, as they all were before: n. NONE: tapes; NOTHING; CAST: of unlike sorts; PLACE: n, i or j is below 0, or beyond either's end.", () -> {
            EngraversHouse x = new EngraversHouse();
            x.tape(0, 2, 60);
            x.tape(1, 2, 6);
            x.tape(2, 1, 6);
            x.tape(4, 2, 0);
            for (int k = 0; k < 60; k++) {
                x.item(0, k, k);
            }
            dues(NONE, x.shift(6, 0, 3, 0, 0), NONE, x.shift(3, 0, 6, 0, 0), NONE, x.shift(-1, 0, 0, 0, 0),
                    NOTHING, x.shift(3, -1, 0, 0, 0), NOTHING, x.shift(2, -1, 3, 0, 0), CAST, x.shift(0, -1, 2, 0, 0),
                    CAST, x.shift(2, 0, 0, 0, 0), PLACE, x.shift(0, 0, 1, 0, 7), PLACE, x.shift(0, 0, 1, 0, -1),
                    PLACE, x.shift(0, -1, 1, 0, 1), PLACE, x.shift(0, 0, 1, -1, 1), PLACE, x.shift(0, 0, 1, 6, 1),
                    PLACE, x.shift(0, 60, 1, 0, 1), PLACE, x.shift(0, 61, 1, 0, 0), PLACE, x.shift(0, 0, 1, 7, 0),
                    PLACE, x.shift(0, MAX, 1, 0, MAX), PLACE, x.shift(0, 1, 1, 1, MAX), PLACE, x.shift(0, MIN, 1, MIN, MIN),
                    0, x.shift(0, 60, 1, 6, 0), 0, x.shift(4, 0, 1, 0, 0), PLACE, x.shift(4, 0, 1, 0, 1), 0, x.read(1, 0),
                    6, x.shift(0, 54, 1, 0, 6), 54, x.read(1, 0), 59, x.read(1, 5));
            dues(60, x.shift(0, 0, 0, 0, 60), 59, x.shift(0, 0, 0, 1, 59), 0, x.read(0, 0), 0, x.read(0, 1), 58, x.read(0, 59),
                    59, x.shift(0, 1, 0, 0, 59), 0, x.read(0, 0), 57, x.read(0, 57), 58, x.read(0, 58), 58, x.read(0, 59));
        });
    }

    public static void main(String[] args) throws Exception {
        readDocument();
        things();
        music();
        parts();
        plates();
        editions();
        pages();
        contractTerms();
        paidTerms();
        hireTerms();
        printTerms();
        proofTerms();
        actTerms();
        tapeTerms();
        promises1to6();
        promises7to12();
        promises13to17();
        promises18to24();
        promises25to30();
        promises31to39();
        promises40to46();
        promises47to50();
        allBoundariesTested();
        System.out.println(wrong == 0 ? "all bounds hold (" + tests + " sentences)" : wrong + " answers are not as due");
        if (wrong != 0) {
            System.exit(1);
        }
    }
}
