import java.lang.management.ManagementFactory;
import java.lang.reflect.*;
import java.util.*;

/**
 * Runs of calls thrown by dice: no call throws, the same calls answer the same, what is refused changes nothing,
 * and a run of 512 calls stays in its room.
 */
public final class RoomTest {
    private static final int CALLS = 512;
    /** The room is 7.3 million fields and elements; a run here is held far below it. */
    private static final long BYTES = 4_000_000;
    private static final int[] EDGES = {-1, -2, 60, 61, 72, 73, 99, 100, 400, 401, 999, 1000, 9999, 10000, 100000,
        Integer.MAX_VALUE, Integer.MIN_VALUE, Integer.MAX_VALUE - 1, 1 << 30, 2002, 1204, 6125};
    private static final String WELL = "as 100 if x|m>5&!(y<2);rh 90;life 3;least 7;ap 5";

    private static int wrong = 0;

    private static void fault(String what) {
        if (wrong++ < 30) {
            System.out.println(what);
        }
    }

    private static List<Method> calls() {
        List<Method> calls = new ArrayList<>();
        for (Method m : EngraversHouse.class.getMethods()) {
            if (m.getDeclaringClass() == EngraversHouse.class) {
                calls.add(m);
            }
        }
        calls.sort(Comparator.comparing(Method::getName));
        return calls;
    }

    private static int value(Random dice) {
        switch (dice.nextInt(8)) {
            case 0:
                return EDGES[dice.nextInt(EDGES.length)];
            case 1:
                return dice.nextInt(64) - 2;
            case 2:
                return dice.nextInt(8) - 2;
            default:
                return dice.nextInt(4);
        }
    }

    private static String told(Method m, Object[] values) {
        return m.getName() + Arrays.toString(values);
    }

    private static long answer(EngraversHouse x, Method m, Object[] values) throws Exception {
        try {
            return ((Number) m.invoke(x, values)).longValue();
        } catch (InvocationTargetException e) {
            fault(told(m, values) + " threw " + e.getCause());
            return 0;
        }
    }

    /** A house with something of everything, and room left. */
    private static EngraversHouse peopled(Random dice) {
        EngraversHouse x = new EngraversHouse();
        x.author();
        x.author();
        x.score(0, 2 + dice.nextInt(6), 2);
        x.derive(0, 1, 4, 1);
        for (int k = 0; k < 60; k++) {
            x.note(k % 3 == 0 ? 1 : 0, k % 3 == 1 ? 1 : 0, dice.nextInt(4), 1 + dice.nextInt(3), 0);
        }
        x.part(0, 0, dice.nextInt(3) - 1);
        x.part(1, 0, 0);
        x.plate(2, 0, 1);
        x.plate(3, 0, 2);
        x.set(2);
        x.press(4);
        x.edition();
        x.press(4);
        for (int k = 0; k < WELL.length(); k++) {
            x.feed(WELL.charAt(k), 1);
        }
        x.contract(0, 0);
        x.ask(1, 3, 4, 5);
        x.month(7);
        x.tape(0, 1, 9);
        x.item(0, 1, 1002);
        return x;
    }

    private static void scan(EngraversHouse x, StringBuilder all) {
        for (int what = 0; what <= 8; what++) {
            all.append(x.count(what)).append(' ').append(x.trace(what)).append(' ');
        }
        all.append(x.ended()).append(' ').append(x.prints(0)).append(' ').append(x.prints(1)).append('\n');
        int things = x.count(2);
        for (int t = 0; t < things; t++) {
            for (int k = 0; k < 4; k++) {
                all.append(x.of(t, k)).append(' ').append(x.bars(t, k)).append(' ').append(x.missed(k, t)).append(' ');
                all.append(x.left(t, k, k / 2 * 3 - k, 0)).append(' ');
            }
            all.append(x.differs(t, 0)).append(' ').append(x.differs(t, 1)).append(' ').append(x.idle(t)).append(' ').append(x.hangs(t));
            all.append(' ').append(x.hire(t, 0)).append(' ').append(x.hire(t, 1)).append(' ').append(x.pages(t, 40, 2, 0)).append(' ');
            for (int bar = 0; bar < 20; bar++) {
                for (int i = -1; i < 8; i++) {
                    all.append(x.heard(t, bar, i)).append(' ').append(x.printed(t, bar % 4, bar, i, 0)).append(' ');
                    all.append(x.printed(t, 0, bar, i, 1)).append(' ');
                }
            }
            all.append('\n');
        }
        for (int land = 0; land < 4; land++) {
            all.append(x.lawful(land, 9999, 0)).append(' ').append(x.right(0, land, 5000)).append(' ');
        }
        for (int tape = 0; tape < 6; tape++) {
            for (int i = 0; i < 60; i++) {
                all.append(x.read(tape, i)).append(' ');
            }
        }
    }

    private static boolean refused(Method m, long answer) {
        String name = m.getName();
        if (name.equals("act") || name.equals("mend") || name.equals("contract") && answer <= -10) {
            return false;
        }
        return answer < 0;
    }

    private static void throwDice() throws Exception {
        List<Method> calls = calls();
        if (calls.size() != 49) {
            fault("the face has " + calls.size() + " calls");
        }
        int refusals = 0;
        for (int run = 0; run < 400; run++) {
            Random dice = new Random(run);
            boolean empty = run % 4 == 0;
            EngraversHouse x = empty ? new EngraversHouse() : peopled(new Random(run));
            EngraversHouse twin = empty ? new EngraversHouse() : peopled(new Random(run));
            for (int k = 0; k < 400; k++) {
                Method m = calls.get(dice.nextInt(calls.size()));
                Object[] values = new Object[m.getParameterCount()];
                for (int i = 0; i < values.length; i++) {
                    values[i] = value(dice);
                }
                StringBuilder before = new StringBuilder();
                boolean looked = dice.nextInt(60) == 0;
                if (looked) {
                    scan(x, before);
                }
                long told = answer(x, m, values);
                if (told != answer(twin, m, values)) {
                    fault("run " + run + ": " + told(m, values) + " answers now this, now that");
                }
                if (looked && refused(m, told)) {
                    refusals++;
                    StringBuilder after = new StringBuilder();
                    scan(x, after);
                    if (!after.toString().equals(before.toString())) {
                        fault("run " + run + ": " + told(m, values) + " answered " + told + ", yet changed something");
                    }
                }
            }
        }
        if (refusals < 500) {
            fault("just " + refusals + " refusals were looked at");
        }
    }

    /** Editions of as many bars as may be, parts read again and again, and contracts: what makes most objects. */
    private static void dearest() {
        EngraversHouse x = new EngraversHouse();
        int calls = 4;
        x.author();
        x.score(0, 8, 1);
        x.tape(0, 1, 60);
        x.part(0, 0, 0);
        for (int k = 0; k < 60; k++, calls++) {
            x.item(0, k, 1002 + 100 * (k % 7));
        }
        for (int k = 0; k < 3; k++, calls++) {
            x.music(0, 0, 0, 0, 60);
        }
        for (int k = 0; k < 3; k++, calls++) {
            x.plate(1, k * 6, k * 6 + 7);
        }
        while (x.count(2) < 60) {
            for (int k = 0; k < 3; k++) {
                x.press(2 + k);
            }
            x.edition();
            calls += 4;
        }
        while (calls < CALLS) {
            x.hangs(calls % 50 + 5);
            x.changes(calls % 50 + 5, 59, -1);
            x.feed(0x6c696665, 4);
            x.contract(0, 0);
            x.tape(1, 2, 60);
            x.pages(1, 99, 4, 0);
            calls += 6;
        }
    }

    private static void room() {
        com.sun.management.ThreadMXBean thread = (com.sun.management.ThreadMXBean) ManagementFactory.getThreadMXBean();
        dearest();
        long before = thread.getCurrentThreadAllocatedBytes();
        dearest();
        long bytes = thread.getCurrentThreadAllocatedBytes() - before;
        System.out.println("the dearest run takes " + bytes + " bytes");
        if (bytes > BYTES) {
            fault("a run takes too much room");
        }
    }

    public static void main(String[] args) throws Exception {
        room();
        throwDice();
        System.out.println(wrong == 0 ? "all runs stay in their bounds" : wrong + " faults");
        if (wrong != 0) {
            System.exit(1);
        }
    }
}
