import java.util.ArrayList;
import java.util.Arrays;
import java.util.HashMap;
import java.util.HashSet;
import java.util.List;
import java.util.Map;
import java.util.Set;
import java.util.function.Consumer;

/**
 * Each call by tables, on the house of Probe: each number at both of its ends, one beyond these, and at the ends of int;
 * each THING for each KIND; each two faults of a call at once, of which the one that its words name first is answered;
 * and nothing that is refused changes anything.
 */
public final class EdgesTest {
    private static final int NONE = -1, BAD = -2, STATE = -3, FULL = -4;
    private static final int NO_SUCH = -5, NOTHING = -11, CAST = -12, PLACE = -13, SIZE = -14, NOT_OF = -100;
    private static final long NO = Long.MIN_VALUE;
    private static final int MAX = Integer.MAX_VALUE, MIN = Integer.MIN_VALUE;
    private static final Consumer<EngraversHouse> AS_IT_IS = x -> { };

    private static int wrong = 0;
    private static int looked = 0;
    private static final Set<String> ALL_CALLS = new HashSet<>();
    private static String asItIs;

    private static void fault(String what) {
        if (wrong++ < 60) {
            System.out.println(what);
        }
    }

    private static String told(String name, int[] values) {
        return name + Arrays.toString(values).replace('[', '(').replace(']', ')');
    }

    private static int[] with(int[] values, int at, int v) {
        int[] changed = values.clone();
        changed[at] = v;
        return changed;
    }

    // ---- a refused call

    private static String allOf(Consumer<EngraversHouse> prepare) {
        EngraversHouse x = Probe.house();
        prepare.accept(x);
        return Probe.all(x);
    }

    private static void refused(long due, Consumer<EngraversHouse> prepare, String name, int... values) {
        EngraversHouse x = Probe.house();
        prepare.accept(x);
        long answer = Probe.call(x, name, values);
        looked++;
        ALL_CALLS.add(name);
        if (answer != due) {
            fault(told(name, values) + " answered " + answer + ", due is " + due);
            return;
        }
        if (name.equals("act") || name.equals("contract") && due <= -10) {
            return;
        }
        String before = prepare == AS_IT_IS ? asItIs : allOf(prepare);
        if (!before.equals(Probe.all(x))) {
            fault(told(name, values) + " answered " + answer + ", yet it changed something");
        }
    }

    private static void taken(long notDue, String name, int... values) {
        long answer = Probe.call(Probe.house(), name, values);
        looked++;
        if (answer == notDue) {
            fault(told(name, values) + " answered " + answer + ", which it may not");
        }
    }

    // ---- numbers at their ends

    /** The number at a place may be least to most, with the others as they are. */
    private static void edge(String name, int at, int least, int most, long due, int... values) {
        taken(due, name, with(values, at, least));
        taken(due, name, with(values, at, most));
        for (long v : new long[] {least - 1L, most + 1L, MIN, MAX}) {
            if (v >= MIN && v <= MAX && (v < least || v > most)) {
                refused(due, AS_IT_IS, name, with(values, at, (int) v));
            }
        }
    }

    private static void edgesOfScores() {
        edge("pass", 0, 1, 400, BAD, 1);
        edge("died", 0, 0, 1, NONE, 0, 1);
        edge("died", 1, 0, 100, BAD, 0, 1);
        edge("score", 0, 0, 1, NONE, 0, 4, 1);
        edge("score", 1, 2, 12, BAD, 0, 4, 1);
        edge("score", 2, 1, 4, BAD, 0, 4, 1);
        edge("derive", 1, 0, 1, NONE, 0, 0, 4, 1);
        edge("derive", 2, 2, 12, BAD, 0, 0, 4, 1);
        edge("derive", 3, 1, 4, BAD, 0, 0, 4, 1);
        edge("note", 1, 0, 1, NONE, 0, 0, 5, 1, 0);
        edge("note", 1, 0, 2, NONE, 5, 0, 5, 1, 0);
        edge("note", 2, 0, 60, BAD, 0, 0, 5, 1, 0);
        edge("note", 3, 1, 12, BAD, 0, 0, 5, 1, 0);
        edge("note", 4, 0, 1, BAD, 0, 0, 5, 1, 0);
        edge("alter", 1, 0, 1, NONE, 0, 0, 0, 0, 5);
        edge("alter", 2, 0, 8, NONE, 0, 0, 0, 0, 5);
        edge("alter", 2, 0, 0, NONE, 0, 1, 0, 0, 5);
        edge("alter", 3, 0, 0, NONE, 0, 0, 0, 0, 5);
        edge("alter", 3, 0, 1, NONE, 0, 0, 3, 0, 5);
        edge("alter", 4, 1, 60, BAD, 0, 0, 0, 0, 5);
        edge("music", 1, 0, 1, NONE, 0, 0, 0, 0, 1);
        edge("music", 2, 0, 5, NONE, 0, 0, 0, 0, 1);
        edge("music", 4, 1, 60, BAD, 0, 0, 0, 0, 1);
        edge("of", 1, 0, 3, NOT_OF, 0, 0);
        edge("bars", 1, 0, 1, NONE, 0, 0);
        edge("bars", 1, 0, 2, NONE, 5, 0);
    }

    private static void edgesOfParts() {
        edge("part", 1, 0, 1, NONE, 0, 0, 0);
        edge("part", 2, -12, 12, BAD, 0, 0, 0);
        edge("heard", 1, 0, 8, NO_SUCH, 1, 0, 0);
        edge("heard", 2, -1, 0, NO_SUCH, 1, 0, 0);
        edge("heard", 2, -1, 1, NO_SUCH, 1, 3, 0);
        edge("plate", 1, 0, 3, BAD, 1, 0, 3);
        edge("plate", 1, 1, 8, BAD, 1, 1, 8);
        edge("plate", 2, 0, 7, BAD, 1, 0, 0);
        edge("plate", 2, 2, 8, BAD, 1, 2, 8);
        edge("mend", 1, 0, 3, NONE, 2, 0, 0, 5);
        edge("mend", 2, 0, 0, NONE, 2, 0, 0, 5);
        edge("mend", 2, 0, 1, NONE, 2, 3, 1, 5);
        edge("mend", 3, 1, 72, BAD, 2, 0, 0, 5);
        edge("differs", 1, 0, 1, NONE, 2, 0);
        edge("printed", 1, 0, 0, NO_SUCH, 3, 0, 0, 0, 0);
        edge("printed", 2, 0, 3, NO_SUCH, 3, 0, 0, 0, 0);
        edge("printed", 3, -1, 0, NO_SUCH, 3, 0, 0, 0, 0);
        edge("printed", 3, -1, 1, NO_SUCH, 3, 0, 3, 0, 1);
        edge("printed", 4, 0, 1, NO_SUCH, 3, 0, 0, 0, 0);
        edge("erratum", 1, 0, 3, NONE, 3, 0, 0, 0, 10, 11);
        edge("erratum", 2, 0, 19, BAD, 3, 0, 0, 0, 10, 11);
        edge("erratum", 3, 0, 7, BAD, 3, 0, 0, 0, 10, 11);
        edge("erratum", 4, 1, 60, BAD, 3, 0, 0, 0, 10, 11);
        edge("erratum", 5, 1, 60, BAD, 3, 0, 0, 0, 10, 11);
        edge("changes", 2, -1, 3, NONE, 3, 3, 0);
        edge("pages", 1, 5, 99, BAD, 8, 9, 1, 0);
        edge("pages", 2, 1, 4, BAD, 1, 9, 1, 0);
        edge("pages", 3, 0, 1, NONE, 1, 9, 1, 0);
        edge("pages", 3, 10, 18, NONE, 1, 9, 1, 10);
    }

    private static void edgesOfContracts() {
        edge("feed", 1, 0, 4, BAD, -1, 0);
        edge("contract", 0, 0, 3, NONE, 0, 0);
        edge("contract", 1, 0, 9999, BAD, 0, 0);
        edge("lawful", 0, 0, 3, NO_SUCH, 0, 0, 0);
        edge("lawful", 1, 0, 9999, NO_SUCH, 0, 0, 0);
        edge("lawful", 2, 0, 3, NO_SUCH, 0, 0, 0);
        edge("right", 0, 0, 1, NONE, 0, 0, 0);
        edge("right", 1, 0, 3, NONE, 0, 0, 0);
        edge("right", 2, 0, 9999, BAD, 0, 0, 0);
        edge("paid", 1, 0, 3, NONE, 0, 0, 0, 0, 0, 0, 0);
        edge("paid", 2, 0, 9999, BAD, 0, 0, 0, 0, 0, 0, 0);
        edge("paid", 3, 0, 2, BAD, 0, 0, 0, 0, 0, 0, 0);
        edge("paid", 4, 0, 100000, BAD, 0, 0, 0, 0, 0, 0, 0);
        edge("paid", 5, 0, 999, BAD, 0, 0, 0, 0, 0, 0, 0);
        edge("paid", 6, 0, 2, NONE, 0, 0, 0, 0, 0, 0, 0);
    }

    private static void edgesOfHire() {
        edge("stands", 1, 0, 5, NONE, 4, 0);
        edge("way", 0, 0, 5, NONE, 0, 3, 1);
        edge("way", 1, 0, 5, NONE, 3, 0, 1);
        edge("way", 2, 0, 99, BAD, 0, 5, 1);
        edge("ask", 0, 0, 5, NONE, 0, 7, 7, 7);
        edge("ask", 1, 0, 9999, BAD, 0, 7, 9999, 7);
        edge("ask", 1, 0, 7, BAD, 0, 7, 7, 7);
        edge("ask", 2, 7, 9999, BAD, 0, 7, 7, 7);
        edge("ask", 3, 0, 999, BAD, 0, 7, 7, 7);
        edge("hire", 1, 0, 1, NONE, 4, 0);
        edge("month", 0, 0, 999, BAD, 0);
        edge("costs", 0, 0, 9999, BAD, 0, 0, 1);
        edge("costs", 1, 0, 99, BAD, 0, 0, 1);
        edge("costs", 2, 1, 9999, BAD, 0, 0, 1);
        edge("prints", 0, 0, 1, NONE, 0);
        edge("proof", 0, 0, 3, NONE, 0, 2, 1);
        edge("proof", 2, 0, 15, BAD, 0, 2, 1);
        edge("proof", 2, 0, 1, BAD, 0, 9, 1);
        edge("left", 1, 0, 2, NO, 2, 0, 3, 0);
        edge("left", 1, 1, 3, NO, 2, 1, 0, 0);
        edge("left", 2, 0, 2, NO, 2, 3, 0, 0);
        edge("left", 2, 1, 3, NO, 2, 0, 1, 0);
        edge("left", 3, 0, 1, NO, 2, 0, 1, 0);
        edge("missed", 0, 0, 3, NONE, 0, 2);
    }

    private static void edgesOfActsAndTapes() {
        edge("act", 1, 0, 2, 0, 4, 0, 5);
        edge("trace", 0, 0, 8, NONE, 0);
        edge("taken", 1, 0, 7, BAD, 0, 0);
        edge("count", 0, 0, 8, BAD, 0);
        edge("tape", 0, 0, 5, NONE, 0, 0, 1);
        edge("tape", 1, -1, 3, BAD, 0, 0, 1);
        for (int sort = 0; sort < 4; sort++) {
            taken(BAD, "tape", 0, sort, 60);
            taken(SIZE, "tape", 0, sort, 0);
            refused(BAD, AS_IT_IS, "tape", 0, sort, 61);
            refused(BAD, AS_IT_IS, "tape", 0, sort, MAX);
            refused(SIZE, AS_IT_IS, "tape", 0, sort, -1);
            refused(SIZE, AS_IT_IS, "tape", 0, sort, MIN);
        }
        edge("item", 0, 0, 5, NONE, 0, 0, 1);
        edge("item", 1, 0, 9, PLACE, 0, 0, 1);
        edge("read", 0, 0, 2, NO, 0, 0);
        edge("read", 1, 0, 9, NO, 0, 0);
        edge("shift", 0, 0, 5, NONE, 0, 0, 0, 0, 1);
        edge("shift", 2, 0, 5, NONE, 0, 0, 0, 0, 1);
        edge("shift", 1, 0, 9, PLACE, 0, 0, 2, 0, 1);
        edge("shift", 1, 0, 10, PLACE, 0, 0, 2, 0, 0);
        edge("shift", 3, 0, 5, PLACE, 0, 0, 2, 0, 1);
        edge("shift", 3, 0, 6, PLACE, 0, 0, 2, 0, 0);
        edge("shift", 4, 0, 6, PLACE, 0, 0, 2, 0, 1);
        edge("shift", 4, 0, 6, PLACE, 2, 0, 0, 0, 1);
        edge("shift", 4, 0, 3, PLACE, 0, 7, 2, 0, 1);
        edge("shift", 4, 0, 3, PLACE, 0, 0, 2, 3, 1);
        edge("shift", 4, 0, 0, PLACE, 0, 10, 2, 6, 0);
    }

    // ---- THINGS of each KIND

    private static final int[] KINDS = {1, 2, 3, 4, 5, 6, 7, 1, 2, 3, 4, 2, 3};

    /** A call that wants a THING at a place, of KINDS as bits; where there is none, where it is of another KIND. */
    private static void wants(String name, int at, int kinds, long none, long cast, int... values) {
        for (int v : new int[] {-1, 13, 59, 60, MIN, MAX}) {
            refused(none, AS_IT_IS, name, with(values, at, v));
        }
        for (int t = 0; t < KINDS.length; t++) {
            boolean fits = (kinds >> KINDS[t] & 1) == 1;
            if (fits) {
                long answer = Probe.call(Probe.house(), name, with(values, at, t));
                if (answer == cast && cast != NO && cast != NO_SUCH) {
                    fault(told(name, with(values, at, t)) + " answered " + answer + " for a THING of KIND " + KINDS[t]);
                }
            } else {
                refused(cast, AS_IT_IS, name, with(values, at, t));
            }
        }
    }

    private static void thingsByKind() {
        int scores = 1 << 1 | 1 << 6, parts = 1 << 2 | 1 << 5, plates = 1 << 3, editions = 1 << 4, sets = 1 << 5, errata = 1 << 7;
        wants("derive", 0, scores, NONE, CAST, 0, 0, 4, 1);
        wants("note", 0, scores, NONE, CAST, 0, 0, 5, 1, 0);
        wants("alter", 0, scores, NONE, CAST, 0, 0, 0, 0, 5);
        wants("music", 0, scores, NONE, CAST, 0, 0, 0, 0, 1);
        wants("bars", 0, scores, NONE, CAST, 0, 0);
        wants("part", 0, scores, NONE, CAST, 0, 0, 0);
        wants("heard", 0, parts, NO_SUCH, NO_SUCH, 1, 0, 0);
        wants("plate", 0, parts, NONE, CAST, 1, 0, 0);
        wants("mend", 0, plates, NONE, CAST, 2, 0, 0, 5);
        wants("differs", 0, plates, NONE, CAST, 2, 0);
        wants("press", 0, plates, NONE, CAST, 2);
        wants("printed", 0, editions, NO_SUCH, NO_SUCH, 3, 0, 0, 0, 0);
        wants("erratum", 0, editions, NONE, CAST, 3, 0, 0, 0, 10, 11);
        wants("idle", 0, errata, NONE, CAST, 6);
        wants("changes", 0, editions, NONE, CAST, 3, 3, 0);
        wants("changes", 1, editions, NONE, CAST, 3, 3, 0);
        wants("hangs", 0, editions, NO_SUCH, NO_SUCH, 3);
        wants("pages", 0, parts, NONE, CAST, 1, 9, 1, 0);
        wants("paid", 0, scores, NONE, CAST, 0, 0, 0, 0, 0, 0, 0);
        wants("set", 0, parts, NONE, CAST, 1);
        wants("stands", 0, sets, NONE, CAST, 4, 0);
        wants("hire", 0, sets, NONE, CAST, 4, 0);
        wants("proof", 1, plates, NONE, CAST, 0, 2, 1);
        wants("missed", 1, plates, NONE, CAST, 0, 2);
        wants("left", 0, plates, NO, NO, 2, 0, 1, 0);
        wants("of", 0, -1, NOT_OF, 0, 2, 0);
        wants("act", 0, -1, 0, 0, 2, 0, 9);
        wants("taken", 0, -1, NOTHING, CAST, 2, 0);
        int[] under = {-1, scores | parts, parts, plates, editions, sets, 1 << 6, errata};
        for (int k = 0; k <= 7; k++) {
            wants("taken", 0, under[k], NOTHING, CAST, 2, k);
        }
    }

    // ---- two faults at once

    private static final class Fault {
        final long due;
        final int[] set;
        final Consumer<EngraversHouse> prepare;

        Fault(long due, Consumer<EngraversHouse> prepare, int... set) {
            this.due = due;
            this.prepare = prepare;
            this.set = set;
        }

        boolean sameNumber(Fault other) {
            for (int k = 0; k < set.length; k += 2) {
                for (int j = 0; j < other.set.length; j += 2) {
                    if (set[k] == other.set[j] && set[k + 1] != other.set[j + 1]) {
                        return true;
                    }
                }
            }
            return false;
        }

        int[] in(int[] values) {
            int[] changed = values.clone();
            for (int k = 0; k < set.length; k += 2) {
                changed[set[k]] = set[k + 1];
            }
            return changed;
        }
    }

    private static Fault f(long due, int... set) {
        return new Fault(due, AS_IT_IS, set);
    }

    private static Fault f(long due, Consumer<EngraversHouse> prepare, int... set) {
        return new Fault(due, prepare, set);
    }

    private static int[] v(int... values) {
        return values;
    }

    /** The faults stand as the call's words name them, those of what hangs on a THING behind CAST. */
    private static void order(String name, int[] values, Fault... faults) {
        for (int i = 0; i < faults.length; i++) {
            refused(faults[i].due, faults[i].prepare, name, faults[i].in(values));
            for (int j = i + 1; j < faults.length; j++) {
                if (!faults[i].sameNumber(faults[j])) {
                    Fault first = faults[i];
                    Fault second = faults[j];
                    Consumer<EngraversHouse> both = first.prepare == AS_IT_IS ? second.prepare
                            : second.prepare == AS_IT_IS ? first.prepare : first.prepare.andThen(second.prepare);
                    refused(first.due, both, name, first.in(second.in(values)));
                }
            }
        }
    }

    private static void fillPress(EngraversHouse x) {
        while (x.count(5) < 12) {
            x.press(2);
        }
    }

    private static void fillContracts(EngraversHouse x) {
        x.feed(0, 0);
        while (x.count(3) < 12) {
            if (x.count(4) == 0) {
                Probe.feed(x, "ap 1");
            }
            x.contract(0, 0);
        }
        Probe.feed(x, "ap 1");
    }

    private static void ordersOfScores() {
        Fault full = f(FULL, Probe::fill);
        order("pass", v(1), f(BAD, x -> {
            while (x.count(0) < 9999) {
                x.pass(Math.min(400, 9999 - x.count(0)));
            }
        }));
        order("author", v(), f(FULL, x -> {
            while (x.count(1) < 12) {
                x.author();
            }
        }));
        order("died", v(0, 0), f(NONE, 0, 2), f(BAD, 1, 101), f(STATE, x -> x.died(0, 5)));
        order("score", v(0, 4, 1), f(NONE, 0, 2), f(BAD, 1, 13), f(BAD, 2, 5), full);
        order("derive", v(0, 0, 4, 1), f(NONE, 0, 60), f(NONE, 1, 2), f(CAST, 0, 1), f(BAD, 2, 1), f(BAD, 3, 0), full);
        Fault noBar = f(FULL, x -> {
            for (int k = 0; k < 20; k++) {
                x.note(0, 0, 1, 4, 0);
            }
        });
        order("note", v(0, 0, 5, 1, 0), f(NONE, 0, 60), f(CAST, 0, 2), f(NONE, 1, 2), f(BAD, 2, 61), f(BAD, 3, 13), f(BAD, 4, 2),
                f(BAD, 2, 0, 4, 1), f(STATE, 3, 5), noBar);
        order("alter", v(0, 0, 0, 0, 5), f(NONE, 0, 60), f(CAST, 0, 1), f(NONE, 1, 2), f(NONE, 2, 9), f(NONE, 3, 8), f(BAD, 4, 61),
                f(STATE, 2, 3, 3, 0));
        order("music", v(0, 0, 0, 9, 1), f(NONE, 0, 60), f(NONE, 2, 6), f(CAST, 0, 1), f(NONE, 1, 2), f(BAD, 4, 61), f(CAST, 2, 1));
        order("of", v(0, 0), f(NOT_OF, 0, 60), f(NOT_OF, 1, 4));
        order("bars", v(0, 0), f(NONE, 0, 60), f(CAST, 0, 1), f(NONE, 1, 2));
        order("part", v(0, 0, 0), f(NONE, 0, 60), f(CAST, 0, 1), f(NONE, 1, 2), f(BAD, 2, 13), full);
    }

    private static void ordersOfEditions() {
        Fault full = f(FULL, Probe::fill);
        order("heard", v(1, 0, 0), f(NO_SUCH, 0, 60), f(NO_SUCH, 0, 0), f(NO_SUCH, 1, 9), f(NO_SUCH, 2, 1));
        order("plate", v(1, 0, 0), f(NONE, 0, 60), f(CAST, 0, 0), f(BAD, 1, 2, 2, 1), f(BAD, 1, 0, 2, 8), f(BAD, 2, 9), full);
        order("mend", v(2, 0, 0, 5), f(NONE, 0, 60), f(CAST, 0, 1), f(NONE, 1, 4), f(NONE, 2, 8), f(BAD, 3, 73), f(STATE, 1, 3, 2, 0));
        order("differs", v(2, 0), f(NONE, 0, 60), f(NONE, 1, 2), f(CAST, 0, 1));
        refused(NONE, AS_IT_IS, "differs", 12, 1);
        order("press", v(2), f(NONE, 0, 60), f(CAST, 0, 1), f(STATE, 0, 9), f(FULL, EdgesTest::fillPress));
        order("edition", v(), f(STATE, x -> x.edition()), full);
        order("printed", v(3, 0, 0, 0, 0), f(NO_SUCH, 0, 60), f(NO_SUCH, 0, 2), f(NO_SUCH, 1, 1), f(NO_SUCH, 2, 4), f(NO_SUCH, 3, 1), f(NO_SUCH, 4, 2));
        order("erratum", v(3, 0, 0, 0, 1, 1), f(NONE, 0, 60), f(NONE, 1, 4), f(CAST, 0, 2), f(BAD, 2, 20), f(BAD, 3, 8), f(BAD, 4, 0), f(BAD, 5, 61), full);
        order("idle", v(6), f(NONE, 0, 60), f(CAST, 0, 3));
        order("changes", v(3, 3, 0), f(NONE, 0, 60), f(NONE, 1, 60), f(NONE, 2, 4), f(CAST, 0, 2), f(CAST, 1, 6), f(STATE, 1, 10));
        order("hangs", v(3), f(NO_SUCH, 0, 60), f(NO_SUCH, 0, 2));
        order("pages", v(1, 9, 1, 0), f(NONE, 0, 60), f(NONE, 3, 2), f(NONE, 3, 9), f(NONE, 3, -1), f(CAST, 0, 2), f(BAD, 1, 4), f(BAD, 2, 5),
                f(STATE, 0, 11), f(STATE, 1, 7), f(NONE, 3, 99));
    }

    private static void ordersOfContracts() {
        order("feed", v(0, 4), f(BAD, 1, 5), f(FULL, x -> {
            while (x.count(4) < 117) {
                x.feed('a', 1);
            }
        }));
        Fault faulty = f(-11, x -> {
            x.contract(0, 0);
            while (x.count(4) > 0) {
                x.contract(0, 0);
            }
            Probe.feed(x, "ax");
        });
        order("contract", v(0, 0), f(NONE, 0, 4), f(BAD, 1, 10000), f(FULL, EdgesTest::fillContracts));
        order("contract", v(0, 0), f(NONE, 0, 4), f(BAD, 1, 10000), faulty);
        refused(FULL, x -> {
            fillContracts(x);
            Probe.feed(x, ";;");
        }, "contract", 0, 0);
        order("lawful", v(0, 0, 0), f(NO_SUCH, 0, 4), f(NO_SUCH, 1, 10000), f(NO_SUCH, 2, 4));
        order("right", v(0, 0, 0), f(NONE, 0, 2), f(NONE, 1, 4), f(BAD, 2, -1));
        order("paid", v(0, 0, 0, 0, 0, 0, 0), f(NONE, 0, 60), f(NONE, 1, 4), f(NONE, 6, 3), f(CAST, 0, 1), f(BAD, 2, -1), f(BAD, 3, 3), f(BAD, 4, -1), f(BAD, 5, 1000));
    }

    private static void ordersOfHire() {
        order("set", v(1), f(NONE, 0, 60), f(CAST, 0, 0), f(FULL, Probe::fill));
        order("stands", v(4, 1), f(NONE, 0, 60), f(NONE, 1, 6), f(CAST, 0, 1));
        order("way", v(0, 1, 1), f(NONE, 0, 6), f(NONE, 1, -1), f(BAD, 0, 1), f(BAD, 2, 100));
        refused(NONE, AS_IT_IS, "way", 6, 6, 1);
        order("ask", v(0, 7, 7, 7), f(NONE, 0, 6), f(BAD, 1, -1), f(BAD, 2, 6), f(BAD, 3, 1000), f(FULL, x -> {
            while (x.count(6) < 9) {
                x.ask(0, 1, 1, 1);
            }
        }));
        order("hire", v(4, 0), f(NONE, 0, 60), f(NONE, 1, 2), f(CAST, 0, 1));
        order("month", v(0), f(BAD, 0, 1000), f(FULL, x -> {
            while (x.count(7) < 10) {
                x.month(1);
            }
        }));
        order("costs", v(0, 0, 1), f(BAD, 0, -1), f(BAD, 1, 100), f(BAD, 2, 0));
        order("prints", v(0), f(NONE, 0, 2), f(STATE, x -> {
            x.costs(1, 1, 9);
            x.month(10);
        }));
        order("proof", v(0, 2, 0), f(NONE, 0, 4), f(NONE, 1, 60), f(CAST, 1, 1), f(BAD, 2, 16));
        order("missed", v(0, 2), f(NONE, 0, 4), f(NONE, 1, 60), f(CAST, 1, 1), f(STATE, 1, 9));
        order("left", v(2, 0, 1, 0), f(NO, 0, 60), f(NO, 0, 1), f(NO, 1, 1), f(NO, 1, 4), f(NO, 3, 2), f(NO, 0, 9), f(NO, x -> x.proof(0, 2, 8)));
    }

    private static void ordersOfActsAndTapes() {
        order("ended", v(), f(STATE));
        order("act", v(4, 0, 5), f(0, 0, 60), f(0, 1, 3));
        order("trace", v(0), f(NONE, 0, 9));
        order("taken", v(0, 1), f(BAD, 1, 8), f(NOTHING, 0, 60), f(CAST, 0, 2));
        order("count", v(0), f(BAD, 0, 9));
        order("tape", v(0, 1, 5), f(NONE, 0, 6), f(BAD, 1, 4), f(BAD, 2, 61), f(SIZE, 2, -1));
        order("item", v(0, 0, 5), f(NONE, 0, 6), f(NOTHING, 0, 3), f(PLACE, 1, 10));
        order("read", v(0, 0), f(NO, 0, 6), f(NO, 0, 3), f(NO, 1, 10));
        order("shift", v(0, 0, 2, 0, 1), f(NONE, 0, 6), f(NONE, 2, 6), f(NOTHING, 0, 3), f(NOTHING, 2, 3), f(CAST, 2, 1), f(PLACE, 4, -1), f(PLACE, 1, 11), f(PLACE, 3, 7));
        refused(CAST, AS_IT_IS, "shift", 1, 0, 0, 0, 1);
        refused(CAST, AS_IT_IS, "shift", 1, 0, 0, 0, 0);
        order("askless", v());
    }

    /** Whatever a call's numbers are, it answers: each at the ends of int, two at once. */
    private static void endsOfInt() {
        Map<String, Integer> counts = new HashMap<>();
        for (java.lang.reflect.Method m : EngraversHouse.class.getMethods()) {
            if (m.getDeclaringClass() == EngraversHouse.class) {
                counts.put(m.getName(), m.getParameterCount());
            }
        }
        int[] ends = {MIN, MIN + 1, -1, 0, 1, 2, 59, 60, MAX - 1, MAX};
        for (Map.Entry<String, Integer> call : counts.entrySet()) {
            int n = call.getValue();
            EngraversHouse x = Probe.house();
            for (int a = 0; a < n; a++) {
                for (int b = 0; b < n; b++) {
                    for (int first : ends) {
                        for (int second : ends) {
                            Probe.call(x, call.getKey(), with(with(new int[n], a, first), b, second));
                            looked++;
                        }
                    }
                }
            }
        }
    }

    private static void allCallsLookedAt() {
        List<String> free = new ArrayList<>(List.of("askless"));
        if (ALL_CALLS.size() + free.size() != Probe.callCount()) {
            fault("just " + ALL_CALLS.size() + " calls were refused here: " + ALL_CALLS);
        }
    }

    public static void main(String[] args) {
        asItIs = allOf(AS_IT_IS);
        edgesOfScores();
        edgesOfParts();
        edgesOfContracts();
        edgesOfHire();
        edgesOfActsAndTapes();
        thingsByKind();
        ordersOfScores();
        ordersOfEditions();
        ordersOfContracts();
        ordersOfHire();
        ordersOfActsAndTapes();
        endsOfInt();
        allCallsLookedAt();
        System.out.println(wrong == 0 ? "all edges hold (" + looked + " calls)" : wrong + " edges do not hold");
        if (wrong != 0) {
            System.exit(1);
        }
    }
}
