import java.lang.reflect.InvocationTargetException;
import java.lang.reflect.Method;
import java.util.Arrays;
import java.util.HashMap;
import java.util.Map;

/** What tests share: a furnished house, calls by their names, and all that can be heard of a house. */
final class Probe {
    private static final Map<String, Method> CALLS = new HashMap<>();
    private static final int[] DAYS = {0, 1, 50, 100, 101, 465, 5000, 9999};

    static {
        for (Method m : EngraversHouse.class.getMethods()) {
            if (m.getDeclaringClass() == EngraversHouse.class) {
                CALLS.put(m.getName(), m);
            }
        }
    }

    private Probe() {
    }

    static int callCount() {
        return CALLS.size();
    }

    static long call(EngraversHouse x, String name, int... values) {
        Object[] boxed = Arrays.stream(values).boxed().toArray();
        try {
            return ((Number) CALLS.get(name).invoke(x, boxed)).longValue();
        } catch (InvocationTargetException e) {
            throw new IllegalStateException(name + Arrays.toString(values) + " threw", e.getCause());
        } catch (IllegalAccessException e) {
            throw new IllegalStateException(e);
        }
    }

    static void feed(EngraversHouse x, String text) {
        for (int i = 0; i < text.length(); i++) {
            x.feed(text.charAt(i), 1);
        }
    }

    static int contract(EngraversHouse x, int land, int day, String text) {
        feed(x, text);
        return x.contract(land, day);
    }

    /** Notes as pitch, length, tied; pitch, length, tied .. */
    static void notes(EngraversHouse x, int score, int voice, int... rows) {
        for (int k = 0; k + 2 < rows.length; k += 3) {
            x.note(score, voice, rows[k], rows[k + 1], rows[k + 2]);
        }
    }

    static void fill(EngraversHouse x) {
        for (int k = 0; k < 60 && x.count(2) < 60; k++) {
            x.score(0, 4, 1);
        }
    }

    /**
     * TODAY 100; authors 0, 1; 0 SCORE (meter 4; voice 0: nine bars, of which 3 is a rest and a note, voice 1: one bar and an open one);
     * 1 PART of voice 0; 2 PLATE of bars 0 to 3, mended in bar 1; 3 EDITION of it; 4 SET; 5 DERIVED (meter 6, 3 voices);
     * 6 ERRATUM of 3; 7 another SCORE with 8 its PART, 9 its PLATE, 10 its EDITION; 11 PART of a voice without bars; 12 another PLATE, of bar 0.
     * On the press is plate 2. All hands read proofs of plate 2. Tape 0: ten shorts, 1: five bytes, 2: six shorts, 4: no ints.
     */
    static EngraversHouse house() {
        EngraversHouse x = new EngraversHouse();
        x.pass(100);
        x.author();
        x.author();
        x.score(0, 4, 2);
        notes(x, 0, 0, 10, 4, 0, 11, 4, 0, 12, 4, 0, 0, 3, 0, 13, 1, 0, 14, 4, 0, 15, 4, 0, 16, 4, 0, 17, 4, 0, 18, 4, 0);
        notes(x, 0, 1, 20, 4, 0, 21, 3, 0);
        x.part(0, 0, 0);
        x.plate(1, 0, 3);
        x.mend(2, 1, 0, 60);
        x.press(2);
        x.edition();
        x.set(1);
        x.derive(0, 1, 6, 3);
        x.erratum(3, 0, 0, 0, 10, 30);
        x.score(1, 4, 1);
        notes(x, 7, 0, 40, 4, 0);
        x.part(7, 0, 0);
        x.plate(8, 0, 0);
        x.press(9);
        x.edition();
        x.part(5, 0, 0);
        x.plate(1, 0, 0);
        x.press(2);
        x.proof(0, 2, 7);
        x.proof(1, 2, 6);
        x.proof(2, 2, 14);
        x.proof(3, 2, 15);
        contract(x, 0, 50, "as 100 if m<10;rh 200;least 3;life 1");
        feed(x, "ap 1");
        x.ask(1, 200, 210, 5);
        x.ask(2, 300, 310, 6);
        x.month(4);
        x.month(5);
        x.tape(0, 1, 10);
        x.tape(1, 0, 5);
        x.tape(2, 1, 6);
        x.tape(4, 2, 0);
        x.item(0, 9, 1004);
        x.item(2, 0, 7);
        x.act(4, 1, 3);
        return x;
    }

    /** Everything that the house answers; it is another house then. */
    static String all(EngraversHouse x) {
        StringBuilder told = new StringBuilder();
        ask(x, told);
        stir(x, told);
        return told.toString();
    }

    private static void put(StringBuilder told, long... answers) {
        for (long a : answers) {
            told.append(a).append(' ');
        }
    }

    private static void ask(EngraversHouse x, StringBuilder told) {
        for (int what = 0; what <= 8; what++) {
            put(told, x.count(what), x.trace(what));
        }
        put(told, x.ended(), x.prints(0), x.prints(1));
        int things = x.count(2);
        for (int t = 0; t < things; t++) {
            told.append('\n').append(t).append(": ");
            askThing(x, t, things, told);
        }
        for (int land = 0; land < 4; land++) {
            for (int day : DAYS) {
                put(told, x.lawful(land, day, 0), x.lawful(land, day, 1), x.lawful(land, day, 2), x.lawful(land, day, 3));
                for (int a = 0; a < x.count(1); a++) {
                    put(told, x.right(a, land, day));
                }
            }
        }
        for (int tape = 0; tape < 6; tape++) {
            for (int i = 0; i < 60; i++) {
                put(told, x.read(tape, i));
            }
        }
    }

    private static void askThing(EngraversHouse x, int t, int things, StringBuilder told) {
        int kind = x.of(t, 0);
        put(told, kind, x.of(t, 1), x.of(t, 2), x.of(t, 3));
        if (kind == 1 || kind == 6) {
            for (int k = 0; k < 4; k++) {
                put(told, x.bars(t, k), x.paid(t, k, 60, k % 3, 10000, 5, k % 3), x.paid(t, 0, 60, 0, 1000, 5, k % 3));
            }
        }
        if (kind == 2 || kind == 5) {
            for (int bar = 0; x.heard(t, bar, -1) > 0; bar++) {
                for (int i = 0; i < x.heard(t, bar, -1); i++) {
                    put(told, x.heard(t, bar, i));
                }
            }
            put(told, x.pages(t, 20, 2, 0), x.pages(t, 20, 2, 1), x.hire(t, 0), x.hire(t, 1));
        }
        if (kind == 3) {
            put(told, x.differs(t, 0), x.differs(t, 1));
            for (int k = 0; k < 16; k++) {
                put(told, x.missed(k / 4, t), x.left(t, k / 4, k % 4, 0), x.left(t, k / 4, k % 4, 1));
            }
        }
        if (kind == 4) {
            askEdition(x, t, things, told);
        }
        if (kind == 7) {
            put(told, x.idle(t));
        }
    }

    private static void askEdition(EngraversHouse x, int t, int things, StringBuilder told) {
        put(told, x.hangs(t));
        for (int other = 0; other < things; other++) {
            put(told, x.changes(t, other, -1));
        }
        for (int k = 0; k < 80; k++) {
            for (int i = 0; i < x.printed(t, k / 20, k % 20, -1, 0); i++) {
                put(told, k, x.printed(t, k / 20, k % 20, i, 0), x.printed(t, k / 20, k % 20, i, 1));
            }
        }
    }

    /** Calls whose answers tell what was there: the press, open bars, notes as they came, towns, ways, the text, sorts. */
    private static void stir(EngraversHouse x, StringBuilder told) {
        int things = x.count(2);
        told.append("\nstirred: ");
        int made = x.edition();
        put(told, made);
        if (made >= 0) {
            askEdition(x, made, things, told);
        }
        for (int t = 0; t < things; t++) {
            stirThing(x, t, told);
        }
        for (int k = 0; k < 36; k++) {
            put(told, x.way(k / 6, k % 6, 50));
        }
        for (int a = 0; a < 12; a++) {
            put(told, x.died(a, 0));
        }
        put(told, x.contract(0, 9999), x.lawful(0, 9999, 3), x.askless(), x.month(1), x.costs(0, 0, 1), x.feed(0, 4), x.pass(1), x.author());
        for (int tape = 0; tape < 6; tape++) {
            put(told, x.item(tape, 0, 0x12F3456), x.read(tape, 0));
        }
    }

    private static void stirThing(EngraversHouse x, int t, StringBuilder told) {
        int kind = x.of(t, 0);
        if (kind == 1 || kind == 6) {
            for (int voice = 0; voice < 4; voice++) {
                put(told, x.note(t, voice, 7, 1, 0), x.note(t, voice, 7, 2, 0));
                for (int k = 0; k < 160; k++) {
                    put(told, x.alter(t, voice, k / 8, k % 8, 1));
                }
            }
        }
        if (kind == 3) {
            for (int k = 0; k < 160; k++) {
                put(told, x.mend(t, k / 8, k % 8, 1));
            }
        }
        if (kind == 5) {
            put(told, x.stands(t, 5));
        }
    }
}
