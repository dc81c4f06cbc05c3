import java.lang.reflect.InvocationTargetException;
import java.lang.reflect.Method;
import java.lang.reflect.Modifier;
import java.util.ArrayList;
import java.util.Arrays;
import java.util.HashMap;
import java.util.List;
import java.util.Map;
import java.util.Random;

/**
 * Runs of 512 calls thrown by dice, each call made on the program and on PlainHouse, which is the document said a second time.
 * An argument (a number) throws that many runs with dice of their own; without one the runs are always the same.
 */
public final class ModelTest {
    private static final int CALLS = 512;
    private static final int RUNS = 400;
    /** A call, by what its arguments are, in groups: a run favours some of these. */
    private static final String[][] GROUPS = {
        {"pass many", "author", "died author day", "of thing what", "count what", "taken thing kind", "act thing act x", "trace what"},
        {"rare score author meter voices", "rare derive score author meter voices", "note score voice pitch length tied",
            "note score voice pitch length tied", "note score voice pitch length tied", "note score voice pitch length tied",
            "music score voice tape place n", "music score voice tape place n", "alter score voice bar i pitch", "bars score voice", "ended"},
        {"rare part score voice shift", "heard part bar i", "heard part bar i", "rare plate part bar till", "rare plate part bar till",
            "mend plate bar i pitch", "alter score voice bar i pitch", "differs plate what", "proof hand plate bits",
            "proof hand plate bits", "proof hand plate bits", "left plate hand hand bit", "missed hand plate"},
        {"press plate", "press plate", "rare edition", "printed edition voice bar i bit", "printed edition voice bar i bit",
            "rare erratum edition voice bar i pitch pitch", "idle erratum", "changes edition edition voice", "changes edition edition voice",
            "hangs edition", "mend plate bar i pitch", "alter score voice bar i pitch"},
        {"pages part width lines what", "pages part width lines line", "rare plate part bar till",
            "note score voice pitch length tied", "note score voice pitch length tied"},
        {"law", "feed x n", "contract land day", "lawful land day what", "right author land day",
            "paid score land day act sum minutes who", "paid derived land day act sum minutes who", "paid derived land day act sum minutes who"},
        {"rare set part", "stands set town", "way town town days", "ask town soon soon worth", "ask town soon soon worth", "rare askless",
            "hire set bit", "hire set bit", "rare pass days"},
        {"month copies", "month copies", "rare costs setup hold most", "prints bit", "prints bit"},
        {"tape tape sort n", "item tape place item", "item tape place item", "read tape place", "shift tape place tape place n",
            "music score voice tape place n"}};
    private static final int[] ENDS = {-1, -2, -13, 13, 60, 61, 72, 73, 99, 100, 400, 401, 1000, 9999, 10000, 100001, 32768, 65535,
        Integer.MAX_VALUE, Integer.MIN_VALUE, Integer.MAX_VALUE - 1};
    private static final Map<String, Method> OURS = methods(EngraversHouse.class);
    private static final Map<String, Method> PLAIN = methods(PlainHouse.class);
    private static final Map<String, Integer> ANSWERS = new HashMap<>();

    private static int wrong = 0;

    private final Random dice;
    private final EngraversHouse ours = new EngraversHouse();
    private final PlainHouse plain = new PlainHouse();
    private final List<String> told = new ArrayList<>();
    private final int oddity;
    private boolean astray = false;

    private ModelTest(long seed) {
        dice = new Random(seed);
        oddity = dice.nextInt(4) == 0 ? 8 : 150;
    }

    private static Map<String, Method> methods(Class<?> of) {
        Map<String, Method> all = new HashMap<>();
        for (Method m : of.getDeclaredMethods()) {
            if (!Modifier.isPrivate(m.getModifiers())) {
                all.put(m.getName(), m);
            }
        }
        return all;
    }

    private int from(int least, int most) {
        return least + dice.nextInt(most - least + 1);
    }

    private static long answer(Map<String, Method> face, Object house, String name, Object[] values) {
        try {
            return ((Number) face.get(name).invoke(house, values)).longValue();
        } catch (InvocationTargetException | IllegalAccessException e) {
            throw new IllegalStateException(name + Arrays.toString(values), e);
        }
    }

    private void call(String name, Integer... values) {
        if (astray || told.size() >= CALLS) {
            return;
        }
        long got = answer(OURS, ours, name, values);
        long due = answer(PLAIN, plain, name, values);
        told.add(name + Arrays.toString(values) + " -> " + got);
        ANSWERS.merge(name + (due < 0 && due > -15 || due == -100 || due == Long.MIN_VALUE ? " " + due : ""), 1, Integer::sum);
        if (got != due) {
            astray = true;
            if (wrong++ < 5) {
                System.out.println(String.join("\n", told) + ", due is " + due + "\n");
            }
        }
    }

    /** Of the things some one of a kind, if there is one. */
    private int thing(int... kinds) {
        int things = plain.count(2);
        boolean first = kinds[0] != 4 && dice.nextInt(3) > 0;
        int start = things == 0 || first ? 0 : dice.nextInt(things);
        for (int k = 0; k < things; k++) {
            int number = (start + k) % things;
            if (Arrays.stream(kinds).anyMatch(kind -> kind == plain.of(number, 0))) {
                return number;
            }
        }
        return 0;
    }

    private int value(String what) {
        if (dice.nextInt(oddity) == 0) {
            return dice.nextBoolean() ? ENDS[dice.nextInt(ENDS.length)] : from(-2, 62);
        }
        switch (what) {
            case "days":
                return dice.nextInt(4) == 0 ? from(0, 99) : from(1, 9);
            case "many":
                return dice.nextInt(3) == 0 ? from(300, 400) : from(1, 9);
            case "author":
                return from(0, Math.max(0, plain.count(1) - 1));
            case "day":
                return dice.nextInt(4) == 0 ? from(0, 9999) : from(0, plain.count(0) + 3);
            case "soon":
                return Math.max(0, Math.min(9999, plain.count(0) + from(-2, 12)));
            case "thing":
                return from(0, plain.count(2));
            case "score":
                return thing(1, 6);
            case "derived":
                return thing(6);
            case "part":
                return thing(2, 5);
            case "plate":
                return thing(3);
            case "edition":
                return thing(4);
            case "set":
                return thing(5);
            case "erratum":
                return thing(7);
            case "what":
                return from(0, 3);
            case "line":
                return from(10, 20);
            case "kind":
                return from(0, 7);
            case "bit":
                return from(0, 1);
            case "act":
            case "who":
                return from(0, 2);
            case "x":
                return dice.nextInt();
            case "meter":
                return dice.nextBoolean() ? from(2, 4) : from(2, 12);
            case "voices":
                return from(1, 4);
            case "voice":
                return dice.nextInt(6) > 0 ? dice.nextInt(6) / 5 : from(-1, 3);
            case "pitch":
                return dice.nextInt(8) == 0 ? from(0, 73) : from(0, 4);
            case "length":
                return dice.nextInt(4) == 0 ? from(1, 12) : from(1, 3);
            case "tied":
                return from(0, 1);
            case "shift":
                return from(-3, 3);
            case "bar":
                return dice.nextInt(6) == 0 ? from(0, 20) : from(0, 2);
            case "i":
                return dice.nextInt(4) == 0 ? from(-1, 8) : from(0, 1);
            case "width":
                return dice.nextBoolean() ? from(26, 99) : from(5, 40);
            case "lines":
                return from(1, 4);
            case "land":
                return dice.nextInt(3) > 0 ? 0 : from(0, 3);
            case "sum":
                return from(0, 2000);
            case "minutes":
                return from(0, 20);
            case "town":
                return from(0, 5);
            case "worth":
                return from(0, 4);
            case "copies":
                return dice.nextInt(3) == 0 ? 0 : from(0, 6);
            case "setup":
                return from(0, 20);
            case "hold":
                return from(0, 4);
            case "most":
                return from(4, 20);
            case "hand":
                return from(0, 3);
            case "bits":
                return dice.nextInt(1 << from(0, 4));
            case "tape":
                return dice.nextInt(4) == 0 ? from(0, 5) : from(0, 1);
            case "sort":
                return dice.nextBoolean() ? 1 : from(-1, 3);
            case "n":
                return dice.nextInt(4) == 0 ? from(0, 60) : from(0, 6);
            case "place":
                return dice.nextInt(4) == 0 ? from(-1, 60) : from(0, 4);
            default:
                return dice.nextInt(4) == 0 ? dice.nextInt() * dice.nextInt(2) : 100 * from(0, 4) + 2 * from(1, 3) + dice.nextInt(4) / 3;
        }
    }

    // ---- texts of contracts

    private String condition(int deep) {
        StringBuilder e = new StringBuilder();
        for (int k = from(1, 3); k > 0; k--) {
            String number = String.valueOf(from(0, 20));
            String[] all = {"x", "y<" + from(0, 3), "y>" + from(0, 3), "m<" + number, "m>" + number};
            String one = all[dice.nextInt(all.length)];
            if (deep > 0 && dice.nextInt(3) == 0) {
                one = dice.nextBoolean() ? "(" + condition(deep - 1) + ")" : "!" + condition(deep - 1);
            }
            e.append(one).append(k == 1 ? "" : dice.nextBoolean() ? "&" : "|");
        }
        return e.toString();
    }

    private String clause() {
        switch (dice.nextInt(6)) {
            case 0:
                return "life " + from(0, 12);
            case 1:
                return "least " + from(0, 99);
            default:
                String clause = "" + "aar".charAt(dice.nextInt(3)) + "shp".charAt(dice.nextInt(3)) + " " + from(0, 400);
                return dice.nextBoolean() ? clause : clause + " if " + condition(from(0, 6));
        }
    }

    private void law() {
        StringBuilder law = new StringBuilder(clause());
        for (int k = dice.nextInt(9); k > 0; k--) {
            law.append(';').append(clause());
        }
        if (dice.nextInt(3) == 0) {
            int at = dice.nextInt(law.length());
            char sign = "as rhp120;if lfet|&!()xym<>".charAt(dice.nextInt(27));
            if (dice.nextBoolean()) {
                law.setCharAt(at, sign);
            } else if (dice.nextBoolean()) {
                law.insert(at, sign);
            } else {
                law.setLength(at);
            }
        }
        int at = 0;
        while (at < law.length() && !astray) {
            int n = Math.min(dice.nextInt(5), law.length() - at);
            int bytes = dice.nextInt();
            for (int k = 0; k < n; k++) {
                bytes = bytes << 8 | law.charAt(at + k);
            }
            call("feed", bytes, n);
            at += plain.count(4) == 120 || told.size() >= CALLS ? law.length() : n;
        }
        call("contract", value("land"), value("day"));
    }

    // ---- runs

    private void throwCall(String call) {
        if (call.equals("law")) {
            law();
            return;
        }
        if (call.startsWith("rare ")) {
            if (dice.nextInt(6) == 0) {
                throwCall(call.substring(5));
            }
            return;
        }
        String[] words = call.split(" ");
        Integer[] values = new Integer[words.length - 1];
        for (int k = 0; k < values.length; k++) {
            values[k] = words[k + 1].equals("till") ? values[k - 1] + from(-1, 4) : value(words[k + 1]);
        }
        call(words[0], values);
    }

    private void fillBar(int score, int voice) {
        int left = plain.of(score, 2);
        while (left > 0 && !astray && told.size() < CALLS) {
            int length = from(1, left);
            int pitch = from(0, 4);
            call("note", score, voice, pitch, length, pitch == 0 ? 0 : from(0, 1));
            left -= length;
        }
    }

    private void begin() {
        call("author");
        call("author");
        call("score", 0, value("meter"), value("voices"));
        call("derive", 0, 1, value("meter"), value("voices"));
        call("tape", 0, 1, from(0, 60));
        for (int k = from(0, 9); k > 0; k--) {
            call("item", 0, k, value("v"));
        }
        for (int k = from(2, 16); k > 0; k--) {
            fillBar(from(0, 5) / 5, from(0, 5) / 5);
        }
        for (int k = from(1, 3); k > 0; k--) {
            throwCall("part score voice shift");
            for (int n = from(1, 4); n > 0; n--) {
                throwCall("plate part bar till");
            }
            throwCall("press plate");
            throwCall("set part");
        }
        for (int k = from(0, 8); k > 0; k--) {
            throwCall("edition");
            throwCall("press plate");
            throwCall("press plate");
            throwCall("alter score voice bar i pitch");
            throwCall("mend plate bar i pitch");
            throwCall("erratum edition voice bar i pitch pitch");
        }
    }

    private void run() {
        if (dice.nextInt(12) > 0) {
            begin();
        }
        String[] loved = GROUPS[dice.nextInt(GROUPS.length)];
        String[] liked = GROUPS[dice.nextInt(GROUPS.length)];
        while (told.size() < CALLS && !astray) {
            int way = dice.nextInt(8);
            String[] group = way < 4 ? loved : way < 6 ? liked : GROUPS[dice.nextInt(GROUPS.length)];
            throwCall(group[dice.nextInt(group.length)]);
        }
    }

    public static void main(String[] args) {
        int runs = args.length == 0 ? RUNS : Integer.parseInt(args[0]);
        Random seeds = new Random(args.length == 0 ? 20261119L : runs);
        for (int run = 0; run < runs; run++) {
            new ModelTest(seeds.nextLong()).run();
        }
        for (String name : OURS.keySet()) {
            if (!ANSWERS.containsKey(name)) {
                wrong++;
                System.out.println(name + " never was answered but by a refusal");
            }
        }
        if (args.length > 0) {
            ANSWERS.entrySet().stream().sorted(Map.Entry.comparingByKey()).forEach(System.out::println);
        }
        System.out.println(wrong == 0 ? "all runs are as the plain house's" : wrong + " runs are not as the plain house's");
        if (wrong != 0) {
            System.exit(1);
        }
    }
}
