/** For each promise: ordinary inputs, the edges that the document names, and wrong inputs. */
public final class PromisesTest {
    private static final int NONE = -1, BAD = -2, STATE = -3, FULL = -4;
    private static final int NO_SUCH = -5, NOTHING = -11, CAST = -12, PLACE = -13, SIZE = -14;
    private static final int MAX = Integer.MAX_VALUE, MIN = Integer.MIN_VALUE;

    private static int wrong = 0;
    private static int promise = 0;

    private static void due(long want, long got, String what) {
        if (want != got) {
            wrong++;
            System.out.println("promise " + promise + ": " + what + " answered " + got + ", due is " + want);
        }
    }

    /** Rows of wants and answers: want, got, want, got .. */
    private static void dues(String what, long... rows) {
        for (int k = 0; k + 1 < rows.length; k += 2) {
            due(rows[k], rows[k + 1], what + " [" + k / 2 + "]");
        }
    }

    private static void feed(EngraversHouse x, String text) {
        for (int i = 0; i < text.length(); i++) {
            x.feed(text.charAt(i), 1);
        }
    }

    private static int contract(EngraversHouse x, int land, int day, String text) {
        feed(x, text);
        return x.contract(land, day);
    }

    private static void notes(EngraversHouse x, int score, int voice, int... rows) {
        for (int k = 0; k + 2 < rows.length; k += 3) {
            x.note(score, voice, rows[k], rows[k + 1], rows[k + 2]);
        }
    }

    /** Authors 0 and 1; 0: a score of meter 4 with two voices of 3 bars; 1: a part of voice 0; 2: a plate of its bars 0 to 2. */
    private static EngraversHouse house() {
        EngraversHouse x = new EngraversHouse();
        x.author();
        x.author();
        x.score(0, 4, 2);
        notes(x, 0, 0, 10, 4, 0, 11, 2, 0, 0, 2, 0, 12, 1, 0, 13, 3, 0);
        notes(x, 0, 1, 20, 4, 0, 21, 4, 0, 22, 4, 0);
        x.part(0, 0, 0);
        x.plate(1, 0, 2);
        return x;
    }

    private static EngraversHouse full() {
        EngraversHouse x = house();
        while (x.count(2) < 60) {
            x.part(0, 1, 0);
        }
        return x;
    }

    private static void p1to4() {
        promise = 1;
        EngraversHouse x = new EngraversHouse();
        for (int what = 0; what <= 8; what++) {
            due(0, x.count(what), "count(" + what + ") of a new one");
        }
        dues("a new one", -100, x.of(0, 0), STATE, x.ended(), STATE, x.edition(), 0, x.askless(), 0, x.prints(0), 0, x.prints(1),
                NONE, x.trace(0), NOTHING, x.item(5, 0, 0), -1, x.lawful(3, 9999, 0));
        promise = 2;
        dues("pass", 1, x.pass(1), 401, x.pass(400), BAD, x.pass(0), BAD, x.pass(-1), BAD, x.pass(401), BAD, x.pass(MAX), BAD, x.pass(MIN));
        while (x.count(0) < 9601) {
            x.pass(400);
        }
        dues("pass at the end", 9601, x.count(0), BAD, x.pass(399), 9999, x.pass(398), BAD, x.pass(1), 9999, x.count(0));
        promise = 3;
        for (int k = 0; k < 12; k++) {
            due(k, x.author(), "author");
        }
        dues("author", FULL, x.author(), 12, x.count(1));
        promise = 4;
        x = new EngraversHouse();
        dues("died", NONE, x.died(0, 0), 0, x.author(), 1, x.author(), 5, x.pass(5), NONE, x.died(-1, 0), NONE, x.died(2, 99),
                BAD, x.died(0, -1), BAD, x.died(0, 6), 1, x.died(0, 5), STATE, x.died(0, 0), BAD, x.died(0, 6), 1, x.died(1, 0));
    }

    private static void p5and6() {
        promise = 5;
        EngraversHouse x = new EngraversHouse();
        dues("score", NONE, x.score(0, 99, 1), 0, x.author(), NONE, x.score(1, 4, 1), NONE, x.score(-1, 4, 1), BAD, x.score(0, 1, 1),
                BAD, x.score(0, 13, 1), BAD, x.score(0, 4, 0), BAD, x.score(0, 4, 5), 0, x.score(0, 2, 1), 1, x.score(0, 12, 4));
        while (x.count(2) < 60) {
            x.score(0, 4, 1);
        }
        dues("score", FULL, x.score(0, 4, 1), BAD, x.score(0, 1, 1), NONE, x.score(7, 1, 1), 60, x.count(2));
        promise = 6;
        x = house();
        dues("derive", NONE, x.derive(3, 0, 4, 1), NONE, x.derive(-1, 0, 4, 1), NONE, x.derive(1, 2, 4, 1), NONE, x.derive(0, -1, 4, 1),
                CAST, x.derive(1, 0, 99, 1), CAST, x.derive(2, 0, 4, 1), BAD, x.derive(0, 0, 1, 1), BAD, x.derive(0, 0, 4, 5),
                BAD, x.derive(0, 0, 13, 4), BAD, x.derive(0, 0, 4, 0), 3, x.derive(0, 1, 12, 4), 4, x.derive(3, 1, 2, 1), 0, x.of(4, 1), 0, x.of(3, 1),
                12, x.of(3, 2), 4, x.of(3, 3));
        x = full();
        dues("derive", FULL, x.derive(0, 0, 4, 1), BAD, x.derive(0, 0, 1, 1));
    }

    private static void p7() {
        promise = 7;
        EngraversHouse x = house();
        dues("note", NONE, x.note(3, 0, 99, 1, 0), CAST, x.note(1, 9, 1, 1, 0), CAST, x.note(2, 0, 1, 1, 0), NONE, x.note(0, 2, 99, 1, 0),
                NONE, x.note(0, -1, 1, 1, 0), BAD, x.note(0, 0, -1, 1, 0), BAD, x.note(0, 0, 61, 1, 0), BAD, x.note(0, 0, 1, 0, 0),
                BAD, x.note(0, 0, 1, 13, 0), BAD, x.note(0, 0, 1, 1, 2), BAD, x.note(0, 0, 1, 1, -1), BAD, x.note(0, 0, 0, 1, 1),
                STATE, x.note(0, 0, 1, 5, 0), 3, x.note(0, 0, 60, 3, 1), STATE, x.note(0, 0, 1, 2, 0), 4, x.note(0, 0, 0, 1, 0), 3, x.bars(0, 1));
        x = new EngraversHouse();
        x.author();
        x.score(0, 12, 1);
        for (int k = 0; k < 7; k++) {
            due(0, x.note(0, 0, 1, 1, 0), "one of seven notes");
        }
        dues("the 8th", STATE, x.note(0, 0, 1, 4, 0), STATE, x.note(0, 0, 1, 6, 0), 1, x.note(0, 0, 1, 5, 0));
        for (int k = 2; k <= 20; k++) {
            due(k, x.note(0, 0, k, 12, 1), "a bar");
        }
        dues("no room", FULL, x.note(0, 0, 1, 1, 0), BAD, x.note(0, 0, 1, 13, 0), 20, x.bars(0, 0));
        x.score(0, 2, 1);
        for (int k = 1; k <= 20; k++) {
            x.note(1, 0, 1, 2, 0);
        }
        dues("longer than a bar ahead of no room", STATE, x.note(1, 0, 1, 3, 0), FULL, x.note(1, 0, 1, 2, 0));
    }

    private static void p8() {
        promise = 8;
        EngraversHouse x = house();
        x.note(0, 0, 30, 1, 0);
        dues("alter", NONE, x.alter(3, 0, 0, 0, 1), CAST, x.alter(1, 9, 0, 0, 99), NONE, x.alter(0, 2, 0, 0, 1), NONE, x.alter(0, -1, 0, 0, 1),
                NONE, x.alter(0, 0, 3, 0, 1), NONE, x.alter(0, 0, -1, 0, 1), NONE, x.alter(0, 0, 0, 1, 99), NONE, x.alter(0, 0, 0, -1, 1),
                BAD, x.alter(0, 0, 0, 0, 0), BAD, x.alter(0, 0, 0, 0, 61), BAD, x.alter(0, 0, 1, 1, 61), STATE, x.alter(0, 0, 1, 1, 60),
                10, x.alter(0, 0, 0, 0, 60), 60, x.alter(0, 0, 0, 0, 1), 13, x.alter(0, 0, 2, 1, 13), 101008, x.heard(1, 0, 0));
        notes(x, 0, 1, 5, 1, 1, 5, 1, 1, 5, 2, 0);
        dues("alter by the notes as they came", 3, x.part(0, 1, 0), 1, x.heard(3, 3, -1), 5, x.alter(0, 1, 3, 2, 6), 2, x.heard(3, 3, -1),
                105005, x.heard(3, 3, 0), 106004, x.heard(3, 3, 1));
    }

    private static void p9and10() {
        promise = 9;
        EngraversHouse x = house();
        x.score(0, 2, 1);
        x.tape(0, 1, 60);
        x.tape(1, 0, 9);
        dues("music", NONE, x.music(4, 0, 0, 0, 1), NONE, x.music(0, 0, 6, 0, 1), NONE, x.music(1, 0, -1, 0, 1), CAST, x.music(1, 9, 0, 0, 99),
                NONE, x.music(0, 2, 0, 0, 99), NONE, x.music(0, 2, 1, 0, 1), BAD, x.music(0, 0, 0, 0, 0), BAD, x.music(0, 0, 0, 0, 61),
                BAD, x.music(0, 0, 1, 0, 0), CAST, x.music(0, 0, 1, 0, 1), CAST, x.music(0, 0, 1, 99, 1), STATE, x.ended());
        x.item(0, 57, 1004);
        x.item(0, 58, 4);
        x.item(0, 59, 6005);
        dues("music", 1, x.music(3, 0, 0, 57, 1), 0, x.ended(), 2, x.music(3, 0, 0, 57, 2), 0, x.ended(), 3, x.music(3, 0, 0, 57, 60), 1, x.ended(),
                6, x.bars(3, 0), 0, x.music(3, 0, 0, 60, 1), 1, x.ended(), 0, x.music(3, 0, 0, MAX, 60), 1, x.ended(),
                0, x.music(3, 0, 0, MIN, 60), 1, x.ended(), 0, x.music(3, 0, 2, 0, 60), 1, x.ended());
        promise = 10;
        int[] none = {0, 1, 26, 27, 3, 5, 100, 101, 6104, -1, -2, -3, -104, -32768, 1001, 1028, 1006};
        for (int v : none) {
            x.item(0, 0, v);
            dues("music of " + v, 0, x.music(3, 0, 0, 0, 1), 2, x.ended());
        }
        for (int k = 0; k < 60; k++) {
            x.item(0, k, 1002);
        }
        due(6, x.bars(3, 0), "bars that stay");
        dues("music with 14 bars left", 28, x.music(3, 0, 0, 0, 60), 3, x.ended(), 20, x.bars(3, 0), NONE, x.music(3, 1, 0, 0, 1), 3, x.ended());
        x.item(0, 0, 1006);
        dues("what is too long ahead of no room", 0, x.music(3, 0, 0, 0, 1), 2, x.ended(), 0, x.music(3, 0, 0, 1, 1), 3, x.ended());
        EngraversHouse y = house();
        y.tape(0, 1, 2);
        y.item(0, 0, 1105);
        y.item(0, 1, 1204);
        dues("a tied one", 2, y.music(0, 0, 0, 0, 2), 0, y.ended(), 111005, y.heard(1, 3, 0), 112004, y.heard(1, 3, 1));
    }

    private static void p11and12() {
        promise = 11;
        EngraversHouse x = house();
        x.derive(0, 1, 6, 3);
        x.derive(3, 1, 5, 2);
        x.note(4, 1, 9, 5, 0);
        x.part(4, 1, -12);
        x.plate(5, 0, 0);
        x.set(5);
        x.press(6);
        x.press(6);
        x.edition();
        x.erratum(8, 3, 19, 7, 1, 2);
        x.erratum(8, 2, 18, 6, 1, 2);
        int[][] told = {{1, 0, 4, 2}, {2, 0, 0, 0}, {3, 0, 0, 0}, {6, 0, 6, 3}, {6, 0, 5, 2}, {2, 4, 1, -12}, {3, 4, 1, 0},
            {5, 4, 1, -12}, {4, 4, 2, 2}, {7, 4, 3, 19}, {7, 4, 2, 18}};
        for (int thing = 0; thing < told.length; thing++) {
            for (int what = 0; what < 4; what++) {
                due(told[thing][what], x.of(thing, what), "of(" + thing + ", " + what + ")");
            }
        }
        dues("of", -100, x.of(0, 4), -100, x.of(0, -1), -100, x.of(11, 0), -100, x.of(-1, 0), -100, x.of(MAX, 1), -100, x.of(3, MIN));
        x.plate(1, 1, 2);
        due(1, x.of(11, 3), "a plate's first bar");
        promise = 12;
        dues("bars", 3, x.bars(0, 0), 3, x.bars(0, 1), NONE, x.bars(0, 2), NONE, x.bars(0, -1), CAST, x.bars(1, 0), CAST, x.bars(2, 9),
                NONE, x.bars(12, 0), NONE, x.bars(-1, 0), 0, x.bars(3, 2), 1, x.bars(4, 1), 0, x.note(4, 0, 1, 4, 0), 0, x.bars(4, 0),
                1, x.note(4, 0, 1, 1, 0), 1, x.bars(4, 0));
    }

    private static void p13and14() {
        promise = 13;
        EngraversHouse x = house();
        dues("part", NONE, x.part(3, 0, 0), CAST, x.part(1, 9, 99), NONE, x.part(0, 2, 99), NONE, x.part(0, -1, 0), BAD, x.part(0, 0, 13),
                BAD, x.part(0, 0, -13), 3, x.part(0, 0, 12), 4, x.part(0, 1, -12), FULL, full().part(0, 0, 0), BAD, full().part(0, 0, 13));
        promise = 14;
        x = new EngraversHouse();
        x.author();
        x.score(0, 12, 1);
        notes(x, 0, 0, 5, 1, 1, 5, 2, 1, 5, 1, 0, 5, 1, 1, 6, 1, 1, 0, 1, 0, 0, 2, 0, 6, 3, 1);
        x.part(0, 0, 0);
        x.part(0, 0, -5);
        x.part(0, 0, -6);
        dues("heard", 5, x.heard(1, 0, -1), 105008, x.heard(1, 0, 0), 105003, x.heard(1, 0, 1), 106003, x.heard(1, 0, 2), 6, x.heard(1, 0, 3),
                106007, x.heard(1, 0, 4), -5, x.heard(1, 0, 5), -5, x.heard(1, 0, -2), -5, x.heard(1, 1, -1), -5, x.heard(1, -1, -1),
                -5, x.heard(0, 0, -1), -5, x.heard(4, 0, -1), -5, x.heard(-1, 0, -1), -5, x.heard(1, MAX, MAX));
        dues("a pitch that becomes 0 is no rest", 100008, x.heard(2, 0, 0), 100003, x.heard(2, 0, 1), 101003, x.heard(2, 0, 2), 6, x.heard(2, 0, 3),
                100003, x.heard(3, 0, 2), 6, x.heard(3, 0, 3), 99008, x.heard(3, 0, 0), 5, x.heard(3, 0, -1));
        x.note(0, 0, 7, 11, 0);
        dues("a bar that is not whole is not heard", -5, x.heard(1, 1, -1), 2, x.note(0, 0, 8, 1, 0), 2, x.heard(1, 1, -1));
        x.set(2);
        dues("a set is a part", 100008, x.heard(4, 0, 0), 103002, x.heard(4, 1, 1));
    }

    private static void p15to17() {
        promise = 15;
        EngraversHouse x = house();
        for (int k = 3; k < 12; k++) {
            x.note(0, 0, 30 + k, 4, 0);
        }
        dues("plate", NONE, x.plate(3, 0, 0), CAST, x.plate(0, 9, 0), CAST, x.plate(2, 0, 0), BAD, x.plate(1, -1, 0), BAD, x.plate(1, 1, 0),
                BAD, x.plate(1, 0, 12), BAD, x.plate(1, 12, 12), BAD, x.plate(1, 0, 8), BAD, x.plate(1, MAX, MIN), BAD, x.plate(1, 0, MAX),
                3, x.plate(1, 0, 7), 4, x.plate(1, 11, 11), 5, x.plate(1, 4, 11), 6, x.set(1), 7, x.plate(6, 0, 0),
                FULL, full().plate(1, 0, 0), BAD, full().plate(1, 1, 0));
        promise = 16;
        dues("mend", NONE, x.mend(8, 0, 0, 99), CAST, x.mend(1, 9, 9, 99), NONE, x.mend(5, 3, 0, 99), NONE, x.mend(5, 12, 0, 1),
                NONE, x.mend(5, -1, 0, 1), NONE, x.mend(5, MIN, 0, 1), NONE, x.mend(5, MAX, 0, 1), NONE, x.mend(5, 4, 1, 1), NONE, x.mend(5, 4, -1, 1), BAD, x.mend(5, 4, 0, 0),
                BAD, x.mend(5, 4, 0, 73), BAD, x.mend(2, 1, 1, 73), STATE, x.mend(2, 1, 1, 1), 34, x.mend(5, 4, 0, 72), 72, x.mend(5, 4, 0, 1),
                41, x.mend(5, 11, 0, 41));
        x.part(0, 0, -12);
        x.plate(8, 0, 0);
        dues("a pitch below 0", -2, x.mend(9, 0, 0, 5), 5, x.mend(9, 0, 0, 5));
        promise = 17;
        dues("differs", NONE, x.differs(99, 0), NONE, x.differs(1, 2), NONE, x.differs(5, -1), CAST, x.differs(1, 0), CAST, x.differs(0, 1),
                1, x.differs(5, 0), 4, x.differs(5, 1), 0, x.differs(3, 0), NONE, x.differs(3, 1), 10, x.alter(0, 0, 0, 0, 11), 1, x.differs(3, 0),
                0, x.differs(3, 1), 11, x.alter(0, 0, 0, 0, 10), 0, x.differs(3, 0), 37, x.alter(0, 0, 7, 0, 7), 2, x.differs(5, 0),
                1, x.differs(3, 0), 7, x.differs(3, 1), 34, x.alter(0, 0, 4, 0, 1), 1, x.differs(5, 0), 7, x.differs(5, 1));
        x = new EngraversHouse();
        x.author();
        x.score(0, 4, 1);
        notes(x, 0, 0, 5, 2, 1, 6, 2, 0);
        x.part(0, 0, 0);
        x.plate(1, 0, 0);
        dues("a tie that joins", 6, x.alter(0, 0, 0, 1, 5), 1, x.heard(1, 0, -1), 1, x.differs(2, 0), 2, x.plate(1, 0, 0) - 1,
                0, x.differs(3, 0), 5, x.mend(2, 0, 0, 5), 6, x.mend(2, 0, 1, 5), 1, x.differs(2, 0), 5, x.alter(0, 0, 0, 1, 6),
                1, x.differs(2, 0), 1, x.differs(3, 0), 5, x.mend(2, 0, 1, 6), 0, x.differs(2, 0));
    }

    private static void p18and19() {
        promise = 18;
        EngraversHouse x = house();
        x.score(1, 4, 1);
        x.note(3, 0, 9, 4, 0);
        x.part(3, 0, 0);
        x.plate(4, 0, 0);
        dues("press", NONE, x.press(6), NONE, x.press(-1), CAST, x.press(1), 1, x.press(2), STATE, x.press(5), 2, x.press(2), 2, x.count(5));
        for (int k = 3; k <= 12; k++) {
            due(k, x.press(2), "press");
        }
        dues("press", FULL, x.press(2), STATE, x.press(5), CAST, x.press(0), 12, x.count(5));
        promise = 19;
        dues("edition", 6, x.edition(), 12, x.of(6, 2), 0, x.of(6, 1), STATE, x.edition(), 0, x.count(5), 1, x.press(5), 7, x.edition(), 3, x.of(7, 1));
        dues("mended between press and print", 1, x.press(2), 10, x.mend(2, 0, 0, 33), 8, x.edition(), 33, x.mend(2, 0, 0, 34),
                133008, x.printed(8, 0, 0, 0, 0), 110008, x.printed(6, 0, 0, 0, 0));
        x = full();
        x.press(2);
        dues("full", FULL, x.edition(), 1, x.count(5), 60, x.count(2));
    }

    /** The last bar of the last voice goes all the way into an edition, and its errata with it. */
    private static void lastBars() {
        EngraversHouse x = new EngraversHouse();
        x.author();
        x.score(0, 2, 4);
        for (int k = 0; k < 20; k++) {
            x.note(0, 3, 10 + k, 2, 0);
        }
        x.part(0, 3, 2);
        x.plate(1, 12, 19);
        x.plate(1, 0, 0);
        x.press(2);
        dues("the last bar", 3 + 1, x.edition(), 129004, x.printed(4, 3, 19, 0, 0), 122004, x.printed(4, 3, 12, 0, 0), -5, x.printed(4, 3, 11, 0, 0),
                -5, x.printed(4, 2, 19, 0, 0), 5, x.erratum(4, 3, 19, 0, 29, 30), 0, x.idle(5), 130004, x.printed(4, 3, 19, 0, 1), 29, x.alter(0, 3, 19, 0, 31),
                1, x.differs(2, 0), 19, x.differs(2, 1), 133004, x.heard(1, 19, 0));
        x.press(3);
        dues("changes of the last bars", 6, x.edition(), 8, x.changes(4, 6, 3), 8, x.changes(4, 6, -1), 0, x.changes(4, 6, 2), 4, x.hangs(6));
    }

    private static void p20to22() {
        promise = 20;
        EngraversHouse x = house();
        x.part(0, 0, 7);
        x.part(0, 1, -3);
        x.plate(3, 1, 1);
        x.plate(4, 2, 2);
        x.mend(5, 1, 0, 7);
        x.press(2);
        x.press(5);
        x.press(6);
        x.edition();
        dues("printed", 1, x.printed(7, 0, 0, -1, 0), 110008, x.printed(7, 0, 0, 0, 0), 2, x.printed(7, 0, 1, -1, 1), 100004, x.printed(7, 0, 1, 0, 0),
                4, x.printed(7, 0, 1, 1, 0), 112002, x.printed(7, 0, 2, 0, 0), 113006, x.printed(7, 0, 2, 1, 0), 1, x.printed(7, 1, 2, -1, 0),
                122008, x.printed(7, 1, 2, 0, 0), -5, x.printed(7, 1, 0, -1, 0), -5, x.printed(7, 1, 1, 0, 0), -5, x.printed(7, 2, 0, -1, 0),
                -5, x.printed(7, 4, 0, -1, 0), -5, x.printed(7, -1, 0, -1, 0), -5, x.printed(7, 0, 3, -1, 0), -5, x.printed(7, 0, 20, -1, 0),
                -5, x.printed(7, 0, -1, 0, 0), -5, x.printed(7, 0, 0, 1, 0), -5, x.printed(7, 0, 0, -2, 0), -5, x.printed(7, 0, 0, 0, 2),
                -5, x.printed(7, 0, 0, 0, -1), -5, x.printed(2, 0, 0, 0, 0), -5, x.printed(8, 0, 0, 0, 0), -5, x.printed(-1, 0, 0, 0, 0));
        x.press(5);
        x.press(2);
        x.edition();
        due(111004, x.printed(8, 0, 1, 0, 0), "by the one told last");
        lastBars();
        promise = 21;
        dues("erratum", NONE, x.erratum(9, 0, 0, 0, 1, 1), NONE, x.erratum(2, 4, 0, 0, 1, 1), NONE, x.erratum(7, -1, 99, 0, 1, 1),
                CAST, x.erratum(2, 0, 20, 0, 1, 1), BAD, x.erratum(7, 0, 20, 0, 1, 1), BAD, x.erratum(7, 0, -1, 0, 1, 1), BAD, x.erratum(7, 0, 0, 8, 1, 1),
                BAD, x.erratum(7, 0, 0, -1, 1, 1), BAD, x.erratum(7, 0, 0, 0, 0, 1), BAD, x.erratum(7, 0, 0, 0, 61, 1), BAD, x.erratum(7, 0, 0, 0, 1, 0),
                BAD, x.erratum(7, 0, 0, 0, 1, 61), 9, x.erratum(7, 0, 0, 0, 10, 60), 10, x.erratum(7, 0, 0, 0, 10, 20), 11, x.erratum(7, 0, 0, 0, 60, 1),
                12, x.erratum(7, 3, 19, 7, 60, 1), 13, x.erratum(7, 0, 1, 1, 1, 2), 14, x.erratum(8, 0, 0, 0, 10, 2), 5, x.of(7, 3), 1, x.of(8, 3));
        dues("amended", 101008, x.printed(7, 0, 0, 0, 1), 110008, x.printed(7, 0, 0, 0, 0), 102008, x.printed(8, 0, 0, 0, 1),
                4, x.printed(7, 0, 1, 1, 1), 113006, x.printed(7, 0, 2, 1, 1), 1, x.printed(7, 0, 0, -1, 1));
        promise = 22;
        dues("idle", 0, x.idle(9), 1, x.idle(10), 0, x.idle(11), 1, x.idle(12), 1, x.idle(13), 0, x.idle(14), NONE, x.idle(15), NONE, x.idle(-1),
                CAST, x.idle(7));
        dues("another note", 15, x.erratum(7, 0, 2, 0, 12, 13), 16, x.erratum(7, 0, 2, 1, 12, 13), 17, x.erratum(7, 0, 2, 1, 13, 14), 0, x.idle(15),
                1, x.idle(16), 0, x.idle(17), 0, x.idle(9), 113002, x.printed(7, 0, 2, 0, 1), 114006, x.printed(7, 0, 2, 1, 1));
        EngraversHouse f = house();
        f.press(2);
        f.edition();
        while (f.count(2) < 60) {
            f.part(0, 0, 0);
        }
        dues("full", FULL, f.erratum(3, 0, 0, 0, 1, 1), BAD, f.erratum(3, 0, 0, 0, 1, 0), 0, f.of(3, 3));
    }

    private static int printOf(EngraversHouse x, int... plates) {
        for (int plate : plates) {
            x.press(plate);
        }
        return x.edition();
    }

    private static void p23and24() {
        promise = 23;
        EngraversHouse x = house();
        x.part(0, 1, 0);
        x.plate(3, 0, 2);
        x.plate(1, 0, 1);
        x.plate(1, 1, 2);
        x.plate(3, 1, 1);
        int all = printOf(x, 2, 4);
        int head = printOf(x, 5);
        int tail = printOf(x, 6, 7);
        dues("changes", 0, x.changes(all, all, -1), 1, x.changes(all, head, 0), 3, x.changes(all, head, 1), 4, x.changes(all, head, -1),
                4, x.changes(head, all, -1), 2, x.changes(head, tail, 0), 1, x.changes(head, tail, 1), 0, x.changes(head, tail, 2),
                0, x.changes(head, tail, 3), 3, x.changes(tail, head, -1), 2, x.changes(all, tail, 1));
        x.mend(2, 1, 0, 50);
        int mended = printOf(x, 2, 4);
        x.erratum(mended, 0, 1, 0, 50, 11);
        dues("one bar that becomes another, not amended", 1, x.changes(all, mended, 0), 1, x.changes(mended, all, -1));
        x.score(0, 4, 1);
        int score = x.count(2) - 1;
        x.note(score, 0, 1, 4, 0);
        x.part(score, 0, 0);
        x.plate(score + 1, 0, 0);
        int other = printOf(x, score + 2);
        dues("changes", STATE, x.changes(all, other, 0), STATE, x.changes(all, other, -1), CAST, x.changes(0, all, 0), CAST, x.changes(all, 2, 3),
                NONE, x.changes(all, 99, 0), NONE, x.changes(99, all, 0), NONE, x.changes(all, head, 4), NONE, x.changes(0, other, -2), NONE, x.changes(-1, 0, 0));
        promise = 24;
        dues("hangs", NONE, x.hangs(all), tail, x.hangs(head), all, x.hangs(tail), all, x.hangs(mended), NONE, x.hangs(other), -5, x.hangs(2),
                -5, x.hangs(99), -5, x.hangs(-1), -5, x.hangs(0));
        due(3, x.changes(all, tail, -1), "why tail comes ahead of head");
        int again = printOf(x, 5);
        dues("a later one", tail, x.hangs(head), head, x.hangs(again));
    }

    private static void p25() {
        promise = 25;
        EngraversHouse x = house();
        x.part(0, 1, 0);
        x.part(0, 0, 0);
        x.score(0, 4, 1);
        x.part(5, 0, 0);
        // widths of voice 0: 5, 8, 8, of voice 1: 5, 5, 5
        dues("pages", NONE, x.pages(99, 5, 1, 0), NONE, x.pages(0, 9, 1, 2), NONE, x.pages(1, 9, 1, 9), NONE, x.pages(1, 4, 1, -1), NONE, x.pages(1, 0, 0, MIN),
                CAST, x.pages(0, 0, 0, 0), CAST, x.pages(2, 9, 1, 10), BAD, x.pages(1, 4, 1, 0), BAD, x.pages(1, 100, 1, 0), BAD, x.pages(1, 9, 0, 0),
                BAD, x.pages(1, 9, 5, 0), STATE, x.pages(6, 9, 1, 0), STATE, x.pages(6, 9, 1, 99), STATE, x.pages(1, 7, 1, 0), STATE, x.pages(1, 7, 1, 99));
        dues("pages of voice 1", 2000, x.pages(3, 5, 1, 0), 3, x.pages(3, 5, 1, 1), 1, x.pages(3, 5, 1, 12), NONE, x.pages(3, 5, 1, 13), NONE, x.pages(3, 5, 1, MAX),
                1000, x.pages(3, 5, 2, 0), 0, x.pages(3, 5, 3, 0), 0, x.pages(3, 5, 4, 0), 1000, x.pages(3, 10, 1, 0), 2, x.pages(3, 10, 1, 10), 1, x.pages(3, 10, 1, 11),
                0, x.pages(3, 15, 1, 0), 1, x.pages(3, 15, 1, 1), 3, x.pages(3, 15, 1, 10), 81, x.pages(3, 14, 4, 0) + 65);
        // voice 0: a turn behind its second bar is easy: that ends with a rest
        dues("pages of voice 0", 9, x.pages(1, 16, 1, 0), 2, x.pages(1, 16, 1, 10), 1, x.pages(1, 16, 1, 11), 1009, x.pages(1, 8, 1, 0), 9, x.pages(1, 8, 2, 0));
        notes(x, 5, 0, 1, 4, 0, 0, 2, 0, 1, 2, 0, 1, 4, 0);
        dues("a turn ahead of a rest", 0, x.pages(6, 5 + 3, 4, 1) - 3, 9, x.pages(6, 8, 3, 0), 1009, x.pages(6, 8, 1, 0));
        EngraversHouse y = new EngraversHouse();
        y.author();
        y.score(0, 2, 1);
        notes(y, 0, 0, 1, 2, 0, 1, 2, 0, 1, 2, 0, 1, 2, 0);
        y.part(0, 0, 0);
        y.set(1);
        dues("all lines but the last cost", 0, y.pages(1, 15, 4, 0), 2, y.pages(1, 15, 4, 1), 2, y.pages(2, 11, 4, 1), 2, y.pages(1, 11, 4, 10), 1, y.pages(1, 11, 4, 0));
        y.score(0, 4, 1);
        notes(y, 3, 0, 1, 2, 0, 2, 2, 0, 1, 2, 0, 2, 2, 0, 1, 2, 0, 0, 2, 0, 1, 2, 0, 2, 2, 0, 1, 2, 0, 2, 2, 0);
        y.part(3, 0, 0);
        dues("more bars first where the cost is the same", 1082, y.pages(4, 17, 1, 0), 2, y.pages(4, 17, 1, 10), 1, y.pages(4, 17, 1, 11), 2, y.pages(4, 17, 1, 12));
        due(0, y.pages(2, 10, 2, 0), "a set is a part");
    }

    private static void p26and27() {
        promise = 26;
        EngraversHouse x = new EngraversHouse();
        dues("feed", BAD, x.feed(1, -1), BAD, x.feed(1, 5), 0, x.feed(1, 0), 4, x.feed(0x61732039, 4), 0, x.contract(0, 0), 0, x.count(4));
        dues("the lowest bytes", 2, x.feed(0x99616173, 2), 4, x.feed(0x2031, 2), 1, x.contract(0, 0), 0, x.count(4));
        feed(x, "a".repeat(118));
        dues("feed", FULL, x.feed(0, 3), 118, x.count(4), 120, x.feed(0, 2), FULL, x.feed(0, 1), 120, x.feed(0, 0), FULL, x.feed(0, 4));
        x = new EngraversHouse();
        feed(x, "life 1");
        dues("the highest first", 8, x.feed(0x3233, 2), 0, x.contract(2, 0), 123, x.lawful(2, 0, 1));
        dues("a byte beyond 127", 1, x.feed(-1, 1), -10, x.contract(0, 0));
        promise = 27;
        x = new EngraversHouse();
        String[] well = {"as 1", "rh 999", "ap 000", "life 0", "least 12", "as 1 if x", "as 1 if !x", "as 1 if !!!!!x", "as 1 if (((((x)))))",
            "rp 1 if x&y<1|m>999&!(x|m<1)", "as 1;as 1;as 1;as 1;as 1;as 1;as 1;life 1"};
        for (int k = 0; k < well.length; k++) {
            due(k, contract(x, 0, k, well[k]), well[k]);
        }
        x = new EngraversHouse();
        Object[][] faults = {{"", 0}, {"x", 0}, {"A", 0}, {"a", 1}, {"ax", 1}, {"as", 2}, {"as1", 2}, {"as  1", 3}, {"as ", 3}, {"as x", 3}, {"as 1234", 6},
            {"as 1;", 5}, {"as 1 ", 5}, {"as 1 x", 5}, {"as 1 i", 6}, {"as 1 if", 7}, {"as 1 if ", 8}, {"as 1 if  x", 8}, {"as 1  if x", 5},
            {"as 1 if x ", 9}, {"as 1 if x;", 10}, {"as 1 if xx", 9}, {"as 1 if x&", 10}, {"as 1 if x|", 10}, {"as 1 if x&|", 10}, {"as 1 if x)", 9},
            {"as 1 if (x", 10}, {"as 1 if (x;", 10}, {"as 1 if ()", 9}, {"as 1 if !", 9}, {"as 1 if y", 9}, {"as 1 if y=1", 9}, {"as 1 if y<", 10},
            {"as 1 if y<x", 10}, {"as 1 if y<1234", 13}, {"as 1 if z", 8}, {"as 1 if !!!!!!x", 13}, {"as 1 if !(!(!(x)))", 13},
            {"as 1 if !(!(!x", 14}, {"as 1 if ((((((", 13}, {"as 1 if (!(!((", 13}, {"life", 4}, {"lift 1", 3}, {"life1", 4}, {"life  1", 5}, {"life 1 ", 6},
            {"life 1 if x", 6}, {"life 1234", 8}, {"least", 5}, {"leas 1", 4}, {"lo", 1}, {"l", 1}, {"least x", 6}, {";", 0}, {"as 1;;", 5},
            {"as 1;as 1;as 1;as 1;as 1;as 1;as 1;as 1;as 1", 39}, {"as 1;as 1;as 1;as 1;as 1;as 1;as 1;as 1;", 39}, {" as 1", 0}, {"as -1", 3}, {"as :", 3}, {"as 1:", 4}, {"as /", 3}, {"as 1/", 4}, {"as 1 if y;1", 9}, {"as 1 if y<1:", 11},
            {"as 1\u0000", 4}, {"as 1 if x\u00e9", 9}, {"sa 1", 0}, {"aa 1", 1}};
        for (Object[] row : faults) {
            String told = (String) row[0];
            due(-10 - (Integer) row[1], contract(x, 1, 0, told), told);
            due(0, x.count(4), "THE TEXT is empty then");
        }
        EngraversHouse y = new EngraversHouse();
        feed(y, "as 1");
        dues("contract", NONE, y.contract(4, -1), NONE, y.contract(-1, 0), BAD, y.contract(0, -1), BAD, y.contract(0, 10000), 4, y.count(4),
                0, y.contract(3, 9999));
        for (int k = 1; k < 12; k++) {
            due(k, contract(y, 0, k, "as 1"), "contract");
        }
        feed(y, "as x");
        dues("full ahead of the fault", FULL, y.contract(0, 0), 4, y.count(4), 12, y.count(3), BAD, y.contract(0, -1));
    }

    private static void p28and29() {
        promise = 28;
        EngraversHouse x = new EngraversHouse();
        contract(x, 1, 100, "life 5;as 1;least 7;rh 2 if x;life 6");
        contract(x, 1, 50, "life 3;least 1;least 2");
        contract(x, 1, 100, "ap 3");
        contract(x, 2, 10, "life 0");
        dues("lawful", -1, x.lawful(1, 49, 0), 10, x.lawful(1, 49, 1), 0, x.lawful(1, 49, 2), 0, x.lawful(1, 49, 3), 1, x.lawful(1, 50, 0),
                3, x.lawful(1, 99, 1), 2, x.lawful(1, 99, 2), 0, x.lawful(1, 99, 3), 2, x.lawful(1, 100, 0), 10, x.lawful(1, 9999, 1),
                0, x.lawful(1, 100, 2), 1, x.lawful(1, 100, 3), 3, x.lawful(2, 10, 0), 0, x.lawful(2, 10, 1), -1, x.lawful(0, 9999, 0),
                -5, x.lawful(4, 0, 0), -5, x.lawful(-1, 0, 0), -5, x.lawful(1, -1, 0), -5, x.lawful(1, 10000, 0), -5, x.lawful(1, 0, 4), -5, x.lawful(1, 0, -1));
        contract(x, 1, 100, "life 5;as 1;least 7;rh 2 if x;life 6");
        dues("the last such clause", 4, x.lawful(1, 200, 0), 6, x.lawful(1, 200, 1), 7, x.lawful(1, 200, 2), 2, x.lawful(1, 200, 3));
        contract(x, 3, 100, "life 8");
        contract(x, 3, 50, "life 9");
        dues("the greatest such day ahead of the latest", 5, x.lawful(3, 100, 0), 8, x.lawful(3, 9999, 1), 6, x.lawful(3, 99, 0), 9, x.lawful(3, 50, 1), -1, x.lawful(3, 49, 0));
        promise = 29;
        x.author();
        x.author();
        x.pass(60);
        x.died(0, 60);
        dues("right in the last land", 1, x.right(0, 3, 100 + 365 * 8 - 41), 0, x.right(0, 3, 60 + 365 * 8), 1, x.right(1, 3, 0));
        dues("right", NONE, x.right(2, 0, 0), NONE, x.right(-1, 0, 0), NONE, x.right(0, 4, -1), NONE, x.right(0, -1, 0), BAD, x.right(0, 0, -1),
                BAD, x.right(0, 0, 10000), 1, x.right(1, 0, 9999), 1, x.right(0, 0, 60 + 3649), 0, x.right(0, 0, 60 + 3650), 1, x.right(0, 2, 59),
                0, x.right(0, 2, 60), 1, x.right(0, 2, 0), 1, x.right(0, 1, 60), 1, x.right(0, 1, 60 + 2189), 0, x.right(0, 1, 60 + 2190));
    }

    private static void p30() {
        promise = 30;
        EngraversHouse x = new EngraversHouse();
        x.author();
        x.author();
        x.score(0, 4, 1);
        x.derive(0, 1, 4, 1);
        x.derive(1, 0, 4, 1);
        x.part(0, 0, 0);
        dues("paid", NONE, x.paid(4, 0, 0, 0, 0, 0, 0), NONE, x.paid(3, 4, 0, 0, 0, 0, 0), NONE, x.paid(3, 0, -1, 0, 0, 0, 3), NONE, x.paid(0, 0, 0, 0, 0, 0, -1),
                NONE, x.paid(0, -1, 0, 0, 0, 0, 0), CAST, x.paid(3, 0, -1, 9, -1, -1, 0), BAD, x.paid(0, 0, -1, 0, 0, 0, 0), BAD, x.paid(0, 0, 10000, 0, 0, 0, 0),
                BAD, x.paid(0, 0, 0, 3, 0, 0, 0), BAD, x.paid(0, 0, 0, -1, 0, 0, 0), BAD, x.paid(0, 0, 0, 0, -1, 0, 0), BAD, x.paid(0, 0, 0, 0, 100001, 0, 0),
                BAD, x.paid(0, 0, 0, 0, 0, -1, 0), BAD, x.paid(0, 0, 0, 0, 0, 1000, 0), 100000, x.paid(0, 0, 9999, 2, 100000, 999, 2));
        dues("paid in the last land", 7, x.paid(0, 3, 0, 0, 7, 0, 2), 0, x.paid(0, 3, 0, 0, 7, 0, 0));
        contract(x, 0, 0, "as 333;ah 100 if m<10&m>4;rs 500;rs 600 if y<1;least 9;ap 0;rp 0 if !x");
        dues("a sale", 33, x.paid(0, 0, 0, 0, 101, 0, 0), 0, x.paid(0, 0, 0, 0, 101, 0, 1), 68, x.paid(0, 0, 0, 0, 101, 0, 2), 33, x.paid(1, 0, 0, 0, 101, 0, 0),
                68, x.paid(1, 0, 0, 0, 101, 0, 1), 0, x.paid(1, 0, 0, 0, 101, 0, 2), 9, x.paid(0, 0, 0, 0, 10, 0, 0), 1, x.paid(0, 0, 0, 0, 10, 0, 2),
                8, x.paid(0, 0, 0, 0, 8, 0, 0), 0, x.paid(0, 0, 0, 0, 0, 0, 0), 33300, x.paid(0, 0, 0, 0, 100000, 0, 0));
        dues("a hire", 0, x.paid(0, 0, 0, 1, 500, 4, 0), 50, x.paid(0, 0, 0, 1, 500, 5, 0), 50, x.paid(0, 0, 0, 1, 500, 9, 0), 0, x.paid(0, 0, 0, 1, 500, 10, 0),
                500, x.paid(0, 0, 0, 1, 500, 10, 2), 0, x.paid(1, 0, 0, 1, 500, 5, 1));
        dues("a playing: least of nothing", 9, x.paid(0, 0, 0, 2, 500, 4, 0), 0, x.paid(1, 0, 0, 2, 500, 4, 1), 491, x.paid(1, 0, 0, 2, 500, 4, 2));
        x.pass(400);
        x.died(0, 20);
        dues("years", 67 + 1, x.paid(1, 0, 384, 0, 101, 0, 1), 50, x.paid(1, 0, 385, 0, 101, 0, 1), 68, x.paid(1, 0, 5, 0, 101, 0, 1), 18, x.paid(1, 0, 385, 0, 101, 0, 2));
        dues("the arranger is dead too", 33, x.paid(2, 0, 385, 0, 101, 0, 0), 50, x.paid(2, 0, 385, 0, 101, 0, 1));
        contract(x, 1, 0, "life 1;as 999;as 999;rs 1");
        dues("no more than is left, and by right", 100000, x.paid(0, 1, 384, 0, 100000, 0, 0), 0, x.paid(0, 1, 385, 0, 100000, 0, 0), 0, x.paid(1, 1, 384, 0, 100000, 0, 1),
                100, x.paid(1, 1, 385, 0, 100000, 0, 1), 99900, x.paid(1, 1, 385, 0, 100000, 0, 2), 0, x.paid(2, 1, 385, 0, 100000, 0, 1));
        contract(x, 2, 0, "as 1 if x|y>0&m>5;as 10 if !(x|m<6);as 100 if y<1");
        dues("& binds closer than |", 100, x.paid(0, 2, 0, 0, 1000, 0, 0), 110, x.paid(0, 2, 0, 0, 1000, 6, 0), 101, x.paid(1, 2, 0, 0, 1000, 6, 0),
                11, x.paid(0, 2, 390, 0, 1000, 6, 0), 0, x.paid(0, 2, 390, 0, 1000, 5, 0), 1, x.paid(1, 2, 390, 0, 1000, 5, 0));
    }

    private static void p31to35() {
        promise = 31;
        EngraversHouse x = house();
        dues("set", NONE, x.set(3), NONE, x.set(-1), CAST, x.set(0), CAST, x.set(2), 3, x.set(1), 4, x.set(3), 5, x.of(4, 0), FULL, full().set(1), CAST, full().set(0));
        promise = 32;
        dues("stands", NONE, x.stands(5, 0), NONE, x.stands(1, 6), NONE, x.stands(3, -1), CAST, x.stands(1, 0), CAST, x.stands(2, 5), 0, x.stands(3, 5),
                5, x.stands(3, 5), 5, x.stands(3, 0), 0, x.stands(4, 1));
        promise = 33;
        dues("way", NONE, x.way(6, 0, 1), NONE, x.way(0, 6, 1), NONE, x.way(-1, -1, -1), BAD, x.way(3, 3, 0), BAD, x.way(0, 1, -1), BAD, x.way(0, 1, 100),
                1, x.way(0, 1, 99), 99, x.way(1, 0, 0), 0, x.way(0, 1, 7), 1, x.way(5, 4, 2), 2, x.way(4, 5, 2));
        promise = 34;
        dues("ask", NONE, x.ask(6, -1, 0, 0), NONE, x.ask(-1, 0, 0, 0), BAD, x.ask(0, -1, 0, 0), BAD, x.ask(0, 10000, 10000, 0), BAD, x.ask(0, 5, 4, 0),
                BAD, x.ask(0, 5, 10000, 0), BAD, x.ask(0, 5, 5, -1), BAD, x.ask(0, 5, 5, 1000));
        for (int k = 0; k < 9; k++) {
            due(k, x.ask(5, 9999, 9999, 999), "ask");
        }
        dues("ask", FULL, x.ask(0, 0, 0, 0), BAD, x.ask(0, 0, 0, -1), 9, x.count(6));
        promise = 35;
        dues("askless", 9, x.askless(), 0, x.askless(), 0, x.count(6), 0, x.ask(0, 0, 0, 0), 1, x.askless());
    }

    private static void p36() {
        promise = 36;
        EngraversHouse x = house();
        x.set(1);
        dues("hire", NONE, x.hire(4, 0), NONE, x.hire(1, 2), NONE, x.hire(3, -1), CAST, x.hire(1, 0), CAST, x.hire(2, 1), 0, x.hire(3, 0), 0, x.hire(3, 1));
        x.way(0, 1, 5);
        x.way(1, 2, 3);
        x.way(0, 2, 9);
        dues("asks", 0, x.ask(1, 4, 4, 100), 1, x.ask(1, 5, 10, 10), 2, x.ask(2, 14, 14, 10), 3, x.ask(2, 13, 20, 9), 4, x.ask(0, 0, 0, 1));
        dues("by the first day, and off on the day behind the last one", 20, x.hire(3, 0), 2 + 4, x.hire(3, 1));
        dues("the way between two, not a shorter one about", 5, x.way(0, 1, 1), 121, x.hire(3, 0), 1 + 2 + 4 + 16, x.hire(3, 1), 1, x.way(0, 1, 5));
        dues("from today on", 1, x.pass(1), 10, x.hire(3, 0), 4, x.hire(3, 1), 0, x.stands(3, 1), 120, x.hire(3, 0), 1 + 2 + 4, x.hire(3, 1), 4, x.pass(3),
                120, x.hire(3, 0), 5, x.pass(1), 20, x.hire(3, 0), 6, x.hire(3, 1), 10, x.pass(5), 10, x.hire(3, 0));
        x = house();
        x.set(1);
        dues("fewest, then least as bits", 0, x.ask(0, 0, 0, 5), 1, x.ask(0, 1, 1, 5), 2, x.ask(0, 0, 1, 10), 3, x.ask(0, 0, 1, 10), 4, x.ask(0, 9, 9, 0),
                10, x.hire(3, 0), 4, x.hire(3, 1), 5, x.ask(0, 2, 2, 1), 11, x.hire(3, 0), 4 + 32, x.hire(3, 1));
        x.askless();
        dues("next day in the same town", 0, x.ask(0, 2, 3, 1), 1, x.ask(0, 4, 4, 1), 2, x.ask(0, 3, 3, 1), 2, x.hire(3, 0), 3, x.hire(3, 1),
                3, x.ask(1, 5, 5, 1), 2, x.hire(3, 0), 3, x.hire(3, 1), 4, x.ask(1, 6, 6, 1), 3, x.hire(3, 0), 1 + 2 + 16, x.hire(3, 1));
        x.askless();
        dues("least as bits, though it begins later", 0, x.ask(0, 5, 5, 3), 1, x.ask(0, 4, 5, 3), 2, x.ask(0, 1, 1, 2), 5, x.hire(3, 0), 5, x.hire(3, 1));
    }

    private static void p37to39() {
        promise = 37;
        EngraversHouse x = new EngraversHouse();
        dues("month", BAD, x.month(-1), BAD, x.month(1000), 1, x.month(0), 2, x.month(999));
        for (int k = 3; k <= 10; k++) {
            due(k, x.month(1), "month");
        }
        dues("month", FULL, x.month(0), BAD, x.month(-1), 10, x.count(7));
        promise = 38;
        dues("costs", BAD, x.costs(-1, 0, 1), BAD, x.costs(10000, 0, 1), BAD, x.costs(0, -1, 1), BAD, x.costs(0, 100, 1), BAD, x.costs(0, 0, 0),
                BAD, x.costs(0, 0, 10000), 10, x.count(7), 10, x.costs(9999, 99, 9999), 0, x.costs(0, 0, 1), 0, x.count(7));
        promise = 39;
        x = new EngraversHouse();
        dues("prints of nothing", NONE, x.prints(2), NONE, x.prints(-1), 0, x.prints(0), 0, x.prints(1), 1, x.month(0), 2, x.month(0), 0, x.prints(0), 0, x.prints(1));
        dues("costs of nothing: the fewest prints, least as bits", 3, x.month(5), 4, x.month(0), 5, x.month(5), 0, x.prints(0), 1, x.prints(1));
        dues("hold", 5, x.costs(10, 1, 100), 1, x.month(0), 2, x.month(4), 3, x.month(4), 14, x.prints(0), 2, x.prints(1), 4, x.month(4), 22, x.prints(0),
                2, x.prints(1), 5, x.month(9), 32, x.prints(0), 2 + 16, x.prints(1));
        dues("most", 5, x.costs(10, 1, 8), 1, x.month(4), 2, x.month(4), 3, x.month(4), 24, x.prints(0), 3, x.prints(1), 4, x.month(9), STATE, x.prints(0),
                STATE, x.prints(1), NONE, x.prints(2));
        dues("most exactly", 4, x.costs(1, 0, 8), 1, x.month(8), 2, x.month(1), 2, x.prints(0), 3, x.prints(1));
        dues("each print makes some copies", 2, x.costs(0, 1, 10), 1, x.month(0), 2, x.month(0), 3, x.month(3), 4, x.month(0), 0, x.prints(0), 4, x.prints(1));
        dues("a print in a month in which none is asked", 4, x.costs(7, 0, 999), 1, x.month(0), 2, x.month(3), 7, x.prints(0), 1, x.prints(1));
        dues("of the same cost the fewest", 2, x.costs(4, 1, 999), 1, x.month(1), 2, x.month(4), 8, x.prints(0), 1, x.prints(1));
        dues("of as many the least as bits", 2, x.costs(4, 1, 8), 1, x.month(4), 2, x.month(4), 3, x.month(4), 12, x.prints(0), 3, x.prints(1));
    }

    private static void p40to42() {
        promise = 40;
        EngraversHouse x = house();
        x.plate(1, 1, 1);
        x.mend(2, 0, 0, 11);
        x.mend(2, 2, 1, 11);
        dues("proof", NONE, x.proof(4, 2, 99), NONE, x.proof(-1, 1, 0), NONE, x.proof(0, 4, 0), CAST, x.proof(0, 1, 99), BAD, x.proof(0, 2, -1), BAD, x.proof(0, 2, 8),
                BAD, x.proof(0, 3, 2), 2, x.proof(0, 2, 7), 1, x.proof(1, 2, 1), 0, x.proof(2, 2, 2), 0, x.proof(3, 2, 0), 0, x.proof(0, 3, 1));
        promise = 42;
        dues("missed", 0, x.missed(0, 2), 1, x.missed(1, 2), 2, x.missed(2, 2), 2, x.missed(3, 2), STATE, x.missed(1, 3), NONE, x.missed(4, 2), NONE, x.missed(-1, 0),
                NONE, x.missed(0, 4), CAST, x.missed(0, 1), 11, x.mend(2, 0, 0, 10), 1, x.missed(2, 2), 0, x.missed(1, 2) - 1, 1, x.proof(1, 2, 6), 0, x.missed(1, 2));
        promise = 41;
        long no = Long.MIN_VALUE;
        dues("left", 0, x.left(2, 0, 1, 0), 1, x.left(2, 0, 1, 1), no, x.left(2, 0, 3, 0), no, x.left(2, 0, 0, 0), no, x.left(2, 0, 4, 0), no, x.left(2, -1, 0, 0),
                no, x.left(2, 0, 1, 2), no, x.left(2, 0, 1, -1), no, x.left(1, 0, 1, 0), no, x.left(9, 0, 1, 0), no, x.left(-1, 0, 1, 0), no, x.left(3, 0, 1, 0), no, x.left(3, 1, 0, 1));
        EngraversHouse y = new EngraversHouse();
        y.author();
        y.score(0, 2, 1);
        for (int k = 0; k < 8; k++) {
            y.note(0, 0, 1, 2, 0);
        }
        y.part(0, 0, 0);
        y.plate(1, 0, 7);
        dues("left", 0, y.proof(0, 2, 0b00011111), 0, y.proof(1, 2, 0b11110011), 2, y.left(2, 0, 1, 0), 1, y.left(2, 1, 0, 1),
                0, y.proof(1, 2, 0b11100011), 9, y.left(2, 0, 1, 0), 2, y.left(2, 0, 1, 1), 0, y.proof(2, 2, 0b11000111), 4, y.left(2, 0, 2, 0), 3, y.left(2, 0, 2, 1),
                0, y.proof(3, 2, 0b11000011), 3, y.left(2, 3, 0, 0), 1, y.left(2, 3, 0, 1), 0, y.proof(3, 2, 0b11100000), no, y.left(2, 0, 3, 0), no, y.left(2, 0, 3, 1),
                3, y.left(2, 1, 3, 1) + 2, 0, y.left(2, 1, 3, 0), BAD, y.proof(0, 2, 256), 0, y.proof(0, 2, 255));
    }

    private static void traceDue(EngraversHouse x, int... bodies) {
        due(bodies.length, x.count(8), "bodies that ran");
        for (int k = 0; k < bodies.length; k++) {
            due(bodies[k], x.trace(k), "trace(" + k + ")");
        }
        due(NONE, x.trace(bodies.length), "behind the trace");
        due(NONE, x.trace(-1), "trace(-1)");
    }

    private static void p43to46() {
        promise = 43;
        EngraversHouse x = house();
        x.press(2);
        x.edition();
        x.set(1);
        x.derive(0, 0, 4, 1);
        x.erratum(3, 0, 0, 0, 1, 1);
        int a = 1000;
        // 0 SCORE, 1 PART, 2 PLATE, 3 EDITION, 4 SET, 5 DERIVED, 6 ERRATUM
        dues("holds", 2000, x.act(0, 0, a), 2002, x.act(1, 0, a), 1002, x.act(2, 0, a), 1007, x.act(3, 0, a), 2009, x.act(4, 0, a), 2010, x.act(5, 0, a), 1006, x.act(6, 0, a));
        traceDue(x, 10);
        x.act(4, 0, a);
        promise = 44;
        traceDue(x, 61, 20, 10);
        x.act(3, 0, a);
        traceDue(x, 50, 10);
        promise = 43;
        dues("turns", 2000 ^ 3, x.act(0, 1, a), (2002 ^ 3) + 4, x.act(1, 1, a), 1002 ^ 3, x.act(2, 1, a), 1007 ^ 3, x.act(3, 1, a), -((2009 ^ 3) + 11), x.act(4, 1, a),
                2010 ^ 3, x.act(5, 1, a), 1006 - (1006 ^ 3), x.act(6, 1, a));
        promise = 44;
        traceDue(x, 80, 10, 11, 10);
        x.act(4, 1, a);
        traceDue(x, 60, 30, 11, 61, 20, 10, 61, 20, 10);
        promise = 43;
        dues("earns", (2000 ^ 3) - a, x.act(0, 2, a), (2002 ^ 3) + 4 - a, x.act(1, 2, a), (1002 ^ 3) - a + 7, x.act(2, 2, a), (1007 ^ 3) - a, x.act(3, 2, a),
                -((2009 ^ 3) + 11) - a, x.act(4, 2, a), ((2010 ^ 3) - a) ^ 2010, x.act(5, 2, a), 1006 - (1006 ^ 3) - a, x.act(6, 2, a));
        promise = 44;
        traceDue(x, 12, 80, 10, 11, 10);
        x.act(5, 2, a);
        traceDue(x, 70, 12, 11, 20, 10, 20, 10);
        x.act(4, 2, a);
        traceDue(x, 12, 60, 30, 11, 61, 20, 10, 61, 20, 10);
        x.act(2, 2, a);
        traceDue(x, 40, 12, 11, 10);
        promise = 43;
        dues("wrapping", (MAX + 1) * 2, x.act(1, 0, MAX), MIN + 2 + 4 - 1, x.act(3, 0, MAX - 1), (MIN + 4) + 3, x.act(3, 0, MIN));
        promise = 44;
        dues("no trace then", 0, x.act(7, 0, a), NONE, x.trace(0), 0, x.count(8), 2002, x.act(1, 0, a), 0, x.act(1, 3, a), NONE, x.trace(0), 1002, x.act(2, 0, a),
                0, x.act(2, -1, a), NONE, x.trace(0), 0, x.act(-1, 0, a), 0, x.count(8));
        promise = 45;
        int[][] kinds = {{0, 1}, {0, 1, 2}, {0, 3}, {0, 4}, {0, 1, 2, 5}, {0, 1, 6}, {0, 7}};
        int[] kind = {1, 2, 3, 4, 5, 6, 7};
        for (int thing = 0; thing < 7; thing++) {
            for (int k = 0; k <= 7; k++) {
                boolean under = false;
                for (int one : kinds[thing]) {
                    under |= one == k;
                }
                due(under ? kind[thing] : CAST, x.taken(thing, k), "taken(" + thing + ", " + k + ")");
            }
        }
        dues("taken", BAD, x.taken(9, 8), BAD, x.taken(0, -1), NOTHING, x.taken(7, 0), NOTHING, x.taken(-1, 7));
        promise = 46;
        x.author();
        x.pass(9);
        feed(x, "as 1");
        x.contract(0, 0);
        feed(x, "as ");
        x.press(2);
        x.press(2);
        x.ask(0, 0, 0, 0);
        for (int k = 0; k < 5; k++) {
            x.month(0);
        }
        x.act(4, 0, 1);
        dues("count", 9, x.count(0), 3, x.count(1), 7, x.count(2), 1, x.count(3), 3, x.count(4), 2, x.count(5), 1, x.count(6), 5, x.count(7), 3, x.count(8),
                BAD, x.count(9), BAD, x.count(-1), BAD, x.count(MAX));
    }

    private static void p47to49() {
        promise = 47;
        EngraversHouse x = new EngraversHouse();
        dues("tape", NONE, x.tape(6, 9, 99), NONE, x.tape(-1, 0, 1), BAD, x.tape(0, 4, -1), BAD, x.tape(0, -2, 0), BAD, x.tape(0, 0, 61), SIZE, x.tape(0, 3, -1), SIZE, x.tape(0, 0, MIN),
                NOTHING, x.item(0, 0, 1), 1, x.tape(0, 2, 60), 1, x.item(0, 59, 7), 7, x.read(0, 59), 1, x.tape(0, 2, 60), 0, x.read(0, 59), 1, x.tape(0, 1, 0),
                PLACE, x.item(0, 0, 1), 1, x.tape(0, 2, 5), 1, x.tape(0, -1, 99), NOTHING, x.item(0, 0, 1), Long.MIN_VALUE, x.read(0, 0), 1, x.tape(5, -1, -99), SIZE, x.tape(5, 1, -1));
        promise = 48;
        for (int sort = 0; sort < 4; sort++) {
            x.tape(sort, sort, 3);
        }
        long[][] kept = {{0, 1, -1, 127, -128, 0, -1, -1, 0}, {0, 1, -1, 127, 128, 256, 32767, -32768 + 32767, 0},
            {0, 1, -1, 127, 128, 256, 32767, MAX, MIN}, {0, 1, 1, 1, 1, 1, 1, 1, 1}};
        int[] put = {0, 1, -1, 127, 128, 256, 32767, MAX, MIN};
        for (int sort = 0; sort < 4; sort++) {
            for (int k = 0; k < put.length; k++) {
                due(1, x.item(sort, k % 3, put[k]), "item");
                due(kept[sort][k], x.read(sort, k % 3), "item " + put[k] + " of sort " + sort);
            }
        }
        x.item(1, 0, 32768);
        due(-32768, x.read(1, 0), "a short beyond its half");
        dues("item", NONE, x.item(6, 0, 1), NONE, x.item(-1, 0, 1), NOTHING, x.item(4, 9, 1), PLACE, x.item(0, 3, 1), PLACE, x.item(0, -1, 1), PLACE, x.item(0, MAX, 1), PLACE, x.item(0, MIN, 1));
        promise = 49;
        long no = Long.MIN_VALUE;
        dues("read", no, x.read(6, 0), no, x.read(-1, 0), no, x.read(4, 0), no, x.read(0, 3), no, x.read(0, -1), MIN, x.read(2, 2));
    }

    private static void p50() {
        promise = 50;
        EngraversHouse x = new EngraversHouse();
        x.tape(0, 2, 6);
        x.tape(1, 2, 4);
        x.tape(2, 1, 4);
        for (int k = 0; k < 6; k++) {
            x.item(0, k, k + 1);
        }
        dues("shift", NONE, x.shift(6, 0, 3, 0, 1), NONE, x.shift(3, 0, -1, 0, 1), NOTHING, x.shift(0, -1, 3, 0, 1), NOTHING, x.shift(3, 0, 0, 0, 1), NOTHING, x.shift(3, 0, 3, 0, 0),
                CAST, x.shift(0, 0, 2, 9, 1), PLACE, x.shift(0, 0, 1, 0, -1), PLACE, x.shift(0, -1, 1, 0, 1), PLACE, x.shift(0, 0, 1, -1, 1), PLACE, x.shift(0, 0, 1, 0, 5),
                PLACE, x.shift(1, 0, 0, 3, 4), PLACE, x.shift(1, 2, 0, 0, 3), PLACE, x.shift(0, MAX, 1, 0, MAX), PLACE, x.shift(0, 0, 1, MAX, 1), PLACE, x.shift(0, 7, 1, 0, 0),
                0, x.shift(0, 6, 1, 4, 0), 4, x.shift(0, 2, 1, 0, 4), 3, x.read(1, 0), 6, x.read(1, 3), 4, x.shift(0, 0, 0, 1, 4));
        long[] upward = {1, 1, 2, 3, 4, 6};
        for (int k = 0; k < 6; k++) {
            due(upward[k], x.read(0, k), "as they all were before, upward");
        }
        due(4, x.shift(0, 2, 0, 0, 4), "shift");
        long[] downward = {2, 3, 4, 6, 4, 6};
        for (int k = 0; k < 6; k++) {
            due(downward[k], x.read(0, k), "as they all were before, downward");
        }
    }

    public static void main(String[] args) {
        p1to4();
        p5and6();
        p7();
        p8();
        p9and10();
        p11and12();
        p13and14();
        p15to17();
        p18and19();
        p20to22();
        p23and24();
        p25();
        p26and27();
        p28and29();
        p30();
        p31to35();
        p36();
        p37to39();
        p40to42();
        p43to46();
        p47to49();
        p50();
        System.out.println(wrong == 0 ? "all promises hold" : wrong + " answers are not as due");
        if (wrong != 0) {
            System.exit(1);
        }
    }
}
