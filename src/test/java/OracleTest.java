import java.util.*;

/** Compares what asks for the least or best, and what is read, with ways to find it that try everything. */
public final class OracleTest {
    private static int wrong = 0;
    private static final Random DICE = new Random(20261118);

    private static void due(long want, long got, String what) {
        if (want != got && wrong++ < 50) {
            System.out.println(what + " answered " + got + ", due is " + want);
        }
    }

    private static int dice(int least, int most) {
        return least + DICE.nextInt(most - least + 1);
    }

    // ---- bars as read

    private static final class Note {
        final int pitch;
        final int length;
        final boolean tied;
        final boolean rest;

        Note(int pitch, int length, boolean tied, boolean rest) {
            this.pitch = pitch;
            this.length = length;
            this.tied = tied;
            this.rest = rest;
        }

        boolean joins(Note next) {
            return rest ? next.rest : tied && !next.rest && pitch == next.pitch;
        }

        int told() {
            return (rest ? 0 : 1000 * (pitch + 100)) + 2 * length + (tied ? 1 : 0);
        }
    }

    /** Joins some two neighbours that may be joined, again and again. */
    private static List<Note> read(List<Note> notes, int shift) {
        List<Note> row = new ArrayList<>();
        for (Note n : notes) {
            row.add(n.rest ? n : new Note(n.pitch + shift, n.length, n.tied, false));
        }
        boolean again = true;
        while (again) {
            again = false;
            for (int k = row.size() - 2; k >= 0 && !again; k--) {
                if (row.get(k).joins(row.get(k + 1))) {
                    Note behind = row.remove(k + 1);
                    Note ahead = row.get(k);
                    row.set(k, new Note(ahead.pitch, ahead.length + behind.length, behind.tied, ahead.rest));
                    again = true;
                }
            }
        }
        return row;
    }

    private static void readings() {
        for (int run = 0; run < 300; run++) {
            EngraversHouse x = new EngraversHouse();
            int meter = dice(2, 12);
            x.author();
            x.score(0, meter, 1);
            List<List<Note>> bars = new ArrayList<>();
            List<Note> open = new ArrayList<>();
            int filled = 0;
            for (int k = 0; k < 100; k++) {
                int pitch = dice(0, 3);
                int length = dice(1, 4);
                int tied = pitch == 0 ? 0 : dice(0, 1);
                boolean none = filled + length > meter || open.size() == 7 && filled + length < meter;
                int want = none ? -3 : bars.size() == 20 ? -4 : bars.size() + (filled + length == meter ? 1 : 0);
                due(want, x.note(0, 0, pitch, length, tied), "note");
                if (want >= 0) {
                    open.add(new Note(pitch, length, tied == 1, pitch == 0));
                    filled += length;
                }
                if (filled == meter) {
                    bars.add(open);
                    open = new ArrayList<>();
                    filled = 0;
                }
            }
            int shift = dice(-12, 12);
            x.part(0, 0, shift);
            due(bars.size(), x.bars(0, 0), "bars");
            for (int bar = 0; bar < bars.size(); bar++) {
                List<Note> row = read(bars.get(bar), shift);
                due(row.size(), x.heard(1, bar, -1), "heard");
                for (int i = 0; i < row.size(); i++) {
                    due(row.get(i).told(), x.heard(1, bar, i), "heard");
                }
                due(-5, x.heard(1, bar, row.size()), "heard");
            }
            due(-5, x.heard(1, bars.size(), -1), "heard");
        }
    }

    // ---- pages

    private static int[] widths;
    private static boolean[] easy;
    private static int bestCost;
    private static List<Integer> best;

    private static boolean moreBarsFirst(List<Integer> a, List<Integer> b) {
        for (int k = 0; k < a.size() && k < b.size(); k++) {
            if (!a.get(k).equals(b.get(k))) {
                return a.get(k) > b.get(k);
            }
        }
        return false;
    }

    private static void tryLines(int from, int width, int lines, int cost, List<Integer> taken) {
        if (from == widths.length) {
            if (best == null || cost < bestCost || cost == bestCost && moreBarsFirst(taken, best)) {
                bestCost = cost;
                best = new ArrayList<>(taken);
            }
            return;
        }
        int used = 0;
        for (int end = from + 1; end <= widths.length; end++) {
            used += widths[end - 1];
            if (used > width) {
                return;
            }
            int more = 0;
            if (end < widths.length) {
                boolean pageEnds = (taken.size() + 1) % lines == 0;
                more = (width - used) * (width - used) + (pageEnds && !easy[end] ? 1000 : 0);
            }
            taken.add(end - from);
            tryLines(end, width, lines, cost + more, taken);
            taken.remove(taken.size() - 1);
        }
    }

    private static void layouts() {
        for (int run = 0; run < 1500; run++) {
            EngraversHouse x = new EngraversHouse();
            x.author();
            x.score(0, 4, 1);
            int bars = dice(1, 12);
            while (x.bars(0, 0) < bars) {
                x.note(0, 0, dice(0, 2), run % 3 == 0 ? 2 : dice(1, 4), 0);
            }
            x.part(0, 0, 0);
            widths = new int[bars];
            easy = new boolean[bars];
            int widest = 0;
            for (int k = 0; k < bars; k++) {
                int notes = x.heard(1, k, -1);
                widths[k] = 2 + 3 * notes;
                widest = Math.max(widest, widths[k]);
                easy[k] = k > 0 && (x.heard(1, k, 0) < 1000 || x.heard(1, k - 1, x.heard(1, k - 1, -1) - 1) < 1000);
            }
            int width = dice(5, 40);
            int lines = dice(1, 4);
            String what = "pages of " + Arrays.toString(widths) + ", " + width + ", " + lines;
            if (width < widest) {
                due(-3, x.pages(1, width, lines, 0), what);
                continue;
            }
            best = null;
            tryLines(0, width, lines, 0, new ArrayList<>());
            due(bestCost, x.pages(1, width, lines, 0), what);
            due(best.size(), x.pages(1, width, lines, 1), what);
            for (int k = 0; k < best.size(); k++) {
                due(best.get(k), x.pages(1, width, lines, 10 + k), what + " line " + k);
            }
            due(-1, x.pages(1, width, lines, 10 + best.size()), what);
        }
    }

    // ---- hire

    private static void tours() {
        for (int run = 0; run < 1500; run++) {
            EngraversHouse x = new EngraversHouse();
            x.author();
            x.score(0, 4, 1);
            x.part(0, 0, 0);
            x.set(1);
            int[][] ways = new int[6][6];
            for (int a = 0; a < 6; a++) {
                for (int b = 0; b < a; b++) {
                    ways[a][b] = dice(0, 1) == 0 ? 1 : dice(0, 9);
                    ways[b][a] = ways[a][b];
                    x.way(a, b, ways[a][b]);
                }
            }
            int today = dice(0, 10);
            if (today > 0) {
                x.pass(today);
            }
            int town = dice(0, 5);
            x.stands(2, town);
            int n = dice(0, 9);
            int[][] asks = new int[n][];
            int span = dice(3, 40);
            for (int k = 0; k < n; k++) {
                int from = dice(0, span);
                asks[k] = new int[] {dice(0, 5), from, from + dice(0, 5), run % 2 == 0 ? dice(0, 2) : dice(0, 999)};
                x.ask(asks[k][0], asks[k][1], asks[k][2], asks[k][3]);
            }
            int bestWorth = 0;
            int bestBits = 0;
            for (int bits = 0; bits < 1 << n; bits++) {
                int worth = served(asks, bits, ways, town, today);
                int fewer = Integer.compare(Integer.bitCount(bits), Integer.bitCount(bestBits));
                if (worth > bestWorth || worth == bestWorth && (fewer < 0 || fewer == 0 && bits < bestBits)) {
                    bestWorth = worth;
                    bestBits = bits;
                }
            }
            due(bestWorth, x.hire(2, 0), "hire for worth");
            due(bestBits, x.hire(2, 1), "hire as bits");
        }
    }

    private static int served(int[][] asks, int bits, int[][] ways, int town, int today) {
        List<Integer> order = new ArrayList<>();
        for (int k = 0; k < asks.length; k++) {
            if ((bits >> k & 1) == 1) {
                order.add(k);
            }
        }
        order.sort(Comparator.comparingInt((Integer k) -> asks[k][1]).thenComparingInt(k -> k));
        int day = today;
        int where = town;
        int worth = 0;
        for (int k : order) {
            day += ways[where][asks[k][0]];
            if (day > asks[k][1]) {
                return -1;
            }
            where = asks[k][0];
            day = asks[k][2] + 1;
            worth += asks[k][3];
        }
        return worth;
    }

    // ---- prints

    private static void printRuns() {
        for (int run = 0; run < 1500; run++) {
            EngraversHouse x = new EngraversHouse();
            int setup = dice(0, 30);
            int hold = dice(0, 3);
            int most = dice(5, 60);
            if (run % 2 == 0) {
                setup = dice(0, 2) * 4;
                hold = dice(0, 1);
            }
            x.costs(setup, hold, most);
            int n = dice(0, 10);
            int[] asked = new int[n];
            boolean tooMuch = false;
            for (int k = 0; k < n; k++) {
                asked[k] = run % 2 == 0 ? dice(0, 2) * 4 : dice(0, 3) == 0 ? 0 : dice(0, 30);
                tooMuch |= asked[k] > most;
                x.month(asked[k]);
            }
            int bestCost = Integer.MAX_VALUE;
            int bestBits = 0;
            for (int bits = 0; bits < 1 << n; bits++) {
                int cost = costOf(asked, bits, setup, hold, most);
                int fewer = Integer.compare(Integer.bitCount(bits), Integer.bitCount(bestBits));
                if (cost >= 0 && (cost < bestCost || cost == bestCost && (fewer < 0 || fewer == 0 && bits < bestBits))) {
                    bestCost = cost;
                    bestBits = bits;
                }
            }
            String what = "prints of " + Arrays.toString(asked) + ", " + setup + ", " + hold + ", " + most;
            due(tooMuch ? -3 : bestCost, x.prints(0), what);
            due(tooMuch ? -3 : bestBits, x.prints(1), what);
        }
    }

    private static int costOf(int[] asked, int bits, int setup, int hold, int most) {
        int cost = 0;
        int made = -1;
        int copies = 0;
        for (int k = 0; k <= asked.length; k++) {
            boolean prints = k == asked.length || (bits >> k & 1) == 1;
            if (prints) {
                if (made >= 0 && (copies == 0 || copies > most)) {
                    return -1;
                }
                cost += k < asked.length ? setup : 0;
                made = k;
                copies = 0;
            }
            if (k < asked.length) {
                if (made < 0 && asked[k] > 0) {
                    return -1;
                }
                copies += asked[k];
                cost += made < 0 ? 0 : asked[k] * (k - made) * hold;
            }
        }
        return cost;
    }

    // ---- changes, the tree

    private static List<String> rowOf(EngraversHouse x, int edition, int voice) {
        List<String> row = new ArrayList<>();
        for (int bar = 0; bar < 20; bar++) {
            int size = x.printed(edition, voice, bar, -1, 0);
            StringBuilder text = new StringBuilder();
            for (int i = 0; i < size; i++) {
                text.append(x.printed(edition, voice, bar, i, 0)).append(' ');
            }
            if (size >= 0) {
                row.add(text.toString());
            }
        }
        return row;
    }

    private static int apart(List<String> a, int i, List<String> b, int j, Map<Integer, Integer> known) {
        if (i == a.size() || j == b.size()) {
            return a.size() - i + b.size() - j;
        }
        Integer told = known.get(i * 100 + j);
        if (told == null) {
            int become = apart(a, i + 1, b, j + 1, known) + (a.get(i).equals(b.get(j)) ? 0 : 1);
            told = Math.min(become, 1 + Math.min(apart(a, i + 1, b, j, known), apart(a, i, b, j + 1, known)));
            known.put(i * 100 + j, told);
        }
        return told;
    }

    private static void trees() {
        for (int run = 0; run < 60; run++) {
            EngraversHouse x = new EngraversHouse();
            x.author();
            x.score(0, 2, 2);
            x.score(0, 2, 1);
            int bars = dice(8, 20);
            for (int k = 0; k < bars; k++) {
                x.note(0, 0, dice(1, 3), 2, 0);
                x.note(0, 1, dice(1, 2), 2, 0);
                x.note(1, 0, dice(1, 2), 2, 0);
            }
            x.part(0, 0, 0);
            x.part(0, 0, dice(-3, 3));
            x.part(0, 1, 0);
            x.part(1, 0, 0);
            List<Integer> plates = new ArrayList<>();
            List<Integer> editions = new ArrayList<>();
            while (x.count(2) < 55) {
                int a = dice(0, bars - 1);
                int plate = x.plate(dice(2, 5), a, Math.min(bars - 1, a + dice(0, 7)));
                plates.add(plate);
                if (dice(0, 2) == 0) {
                    x.mend(plate, dice(a, a + 3), 0, dice(1, 4));
                }
                for (int k = dice(1, 3); k > 0; k--) {
                    x.press(plates.get(dice(0, plates.size() - 1)));
                }
                editions.add(x.edition());
            }
            checkTree(x, editions, 0);
            checkTree(x, editions, 1);
        }
    }

    private static void checkTree(EngraversHouse x, List<Integer> editions, int score) {
        List<Integer> out = new ArrayList<>();
        for (int e : editions) {
            if (x.of(e, 1) == score) {
                out.add(e);
            }
        }
        Map<Integer, Integer> distance = new HashMap<>();
        for (int a : out) {
            for (int b : out) {
                int all = 0;
                for (int voice = 0; voice < 4; voice++) {
                    int one = apart(rowOf(x, a, voice), 0, rowOf(x, b, voice), 0, new HashMap<>());
                    due(one, x.changes(a, b, voice), "changes");
                    all += one;
                }
                due(all, x.changes(a, b, -1), "distance");
                distance.put(a * 100 + b, all);
            }
        }
        List<Integer> in = new ArrayList<>();
        while (!out.isEmpty()) {
            int bestNew = out.get(0);
            int bestIn = -1;
            for (int a : out) {
                for (int b : in) {
                    int now = distance.get(a * 100 + b);
                    int then = bestIn < 0 ? Integer.MAX_VALUE : distance.get(bestNew * 100 + bestIn);
                    if (now < then || now == then && (a < bestNew || a == bestNew && b < bestIn)) {
                        bestNew = a;
                        bestIn = b;
                    }
                }
            }
            due(bestIn, x.hangs(bestNew), "hangs");
            in.add(bestNew);
            out.remove((Integer) bestNew);
        }
    }

    // ---- faults: which byte may come next, told by what came (a row of states and a pile of what is open)

    private static int faultOf(String text) {
        String state = "clause";
        String word = "";
        int digits = 0;
        int clauses = 1;
        boolean share = false;
        Deque<Character> open = new ArrayDeque<>();
        for (int at = 0; at < text.length(); at++) {
            char c = text.charAt(at);
            if (!word.isEmpty()) {
                if (word.charAt(0) != c) {
                    return at;
                }
                word = word.substring(1);
                continue;
            }
            if (state.equals("number") && digits > 0 && !Character.isDigit(c)) {
                state = share ? "behind share" : "behind term";
            } else if (state.equals("measure") && digits > 0 && !Character.isDigit(c)) {
                state = "behind one";
            }
            if (state.equals("clause")) {
                share = c == 'a' || c == 'r';
                if (!share && c != 'l') {
                    return at;
                }
                state = share ? "act" : "term";
            } else if (state.equals("act") || state.equals("term")) {
                if ((state.equals("act") ? "shp" : "ie").indexOf(c) < 0) {
                    return at;
                }
                word = c == 'i' ? "fe " : c == 'e' ? "ast " : " ";
                state = "number";
                digits = 0;
            } else if (state.equals("number") || state.equals("measure")) {
                if (c < '0' || c > '9' || digits == 3) {
                    return at;
                }
                digits++;
            } else if (state.equals("operator")) {
                if (c != '<' && c != '>') {
                    return at;
                }
                state = "measure";
                digits = 0;
            } else if (state.equals("one")) {
                if (c == 'x') {
                    state = "behind one";
                } else if (c == 'y' || c == 'm') {
                    state = "operator";
                } else if ((c == '!' || c == '(') && open.size() < 5) {
                    open.push(c);
                } else {
                    return at;
                }
            } else if (c == ';' && clauses < 8 && (!state.equals("behind one") || !open.contains('('))) {
                clauses++;
                open.clear();
                state = "clause";
            } else if (state.equals("behind share") && c == ' ') {
                word = "if ";
                state = "one";
            } else if (state.equals("behind one") && (c == '&' || c == '|')) {
                while (!open.isEmpty() && open.peek() == '!') {
                    open.pop();
                }
                state = "one";
            } else if (state.equals("behind one") && c == ')' && open.contains('(')) {
                while (open.pop() == '!') {
                }
            } else {
                return at;
            }
        }
        boolean whole = word.isEmpty() && (state.startsWith("behind") || digits > 0 && (state.equals("number") || state.equals("measure")))
                && !((state.equals("behind one") || state.equals("measure")) && open.contains('('));
        return whole ? -1 : text.length();
    }

    // ---- contracts: texts made with what they say

    private static boolean derived;
    private static int years;
    private static int minutes;

    private static final class Said {
        final String text;
        final boolean holds;
        /** 0: stands alone, 1: joined by &, 2: joined by |. */
        final int loose;

        Said(String text, boolean holds, int loose) {
            this.text = text;
            this.holds = holds;
            this.loose = loose;
        }
    }

    private static Said said(int deep) {
        int kind = dice(0, deep > 0 ? 7 : 3);
        if (kind == 0) {
            return new Said("x", derived, 0);
        }
        if (kind <= 3) {
            boolean year = dice(0, 1) == 0;
            boolean below = dice(0, 1) == 0;
            int measured = year ? years : minutes;
            int number = Math.max(0, measured + dice(-1, 1));
            String digits = dice(0, 3) == 0 && number < 100 ? "0" + number : "" + number;
            return new Said((year ? "y" : "m") + (below ? "<" : ">") + digits, below ? measured < number : measured > number, 0);
        }
        Said a = said(deep - 1);
        if (kind == 4) {
            return new Said("!" + (a.loose == 0 ? a.text : "(" + a.text + ")"), !a.holds, 0);
        }
        if (kind == 5) {
            return new Said("(" + a.text + ")", a.holds, 0);
        }
        Said b = said(deep - 1);
        if (kind == 6) {
            String left = a.loose == 2 ? "(" + a.text + ")" : a.text;
            String right = b.loose == 2 ? "(" + b.text + ")" : b.text;
            return new Said(left + "&" + right, a.holds && b.holds, 1);
        }
        return new Said(a.text + "|" + b.text, a.holds || b.holds, 2);
    }

    private static void feed(EngraversHouse x, String text) {
        int at = 0;
        while (at < text.length()) {
            int n = Math.min(dice(1, 4), text.length() - at);
            int bytes = dice(0, 1) == 0 ? 0 : -1;
            for (int k = 0; k < n; k++) {
                bytes = bytes << 8 | text.charAt(at + k);
            }
            x.feed(bytes, n);
            at += n;
        }
    }

    private static void contracts() {
        String signs = "arshp 0123456789if;life least !!((x))y<>m&&||xx";
        for (int run = 0; run < 6000; run++) {
            derived = dice(0, 1) == 0;
            years = dice(0, 3);
            minutes = dice(0, 5);
            int[][] sums = new int[2][3];
            boolean[][] any = new boolean[2][3];
            int least = 0;
            int life = 10;
            StringBuilder text = new StringBuilder();
            for (int k = dice(1, 8); k > 0; k--) {
                text.append(text.length() == 0 ? "" : ";");
                int number = dice(0, 3) == 0 ? dice(0, 999) : dice(0, 200);
                int kind = dice(0, 9);
                if (kind == 0) {
                    life = dice(0, 5);
                    text.append("life ").append(life);
                } else if (kind == 1) {
                    least = number;
                    text.append("least ").append(number);
                } else {
                    int who = dice(0, 1);
                    int act = dice(0, 2);
                    Said when = dice(0, 2) == 0 ? null : said(2);
                    text.append("ar".charAt(who)).append("shp".charAt(act)).append(' ').append(number);
                    text.append(when == null ? "" : " if " + when.text);
                    if (when == null || when.holds) {
                        sums[who][act] += number;
                        any[who][act] = true;
                    }
                }
            }
            if (text.length() > 120) {
                continue;
            }
            EngraversHouse x = new EngraversHouse();
            feed(x, text.toString());
            int fault = faultOf(text.toString());
            due(fault < 0 ? 0 : -10 - fault, x.contract(0, 0), text.toString());
            if (fault < 0) {
                checkPaid(x, text.toString(), sums, any, least, life);
            }
            if (fault >= 0 && !text.toString().contains("((((")) {
                due(-1, fault, "a well made text: " + text);
            }
            StringBuilder torn = new StringBuilder(text);
            for (int k = dice(1, 2); k > 0; k--) {
                int at = dice(0, torn.length());
                char c = signs.charAt(dice(0, signs.length() - 1));
                if (dice(0, 2) == 0) {
                    torn.insert(at, c);
                } else if (at < torn.length() && dice(0, 1) == 0) {
                    torn.setCharAt(at, c);
                } else {
                    torn.setLength(at);
                }
            }
            if (torn.length() <= 120) {
                EngraversHouse y = new EngraversHouse();
                feed(y, torn.toString());
                int place = faultOf(torn.toString());
                due(place < 0 ? 0 : -10 - place, y.contract(3, 9999), torn.toString());
            }
        }
    }

    private static void checkPaid(EngraversHouse x, String text, int[][] sums, boolean[][] any, int least, int life) {
        x.author();
        x.author();
        x.score(0, 4, 1);
        x.derive(0, 1, 4, 1);
        int day = 9999;
        for (int k = 0; k < 24; k++) {
            x.pass(400);
        }
        x.pass(399);
        boolean dead = years > 0 || dice(0, 1) == 0;
        if (dead) {
            x.died(0, day - 365 * years - dice(0, 364));
        }
        boolean right = !dead || years < life;
        int act = dice(0, 2);
        int sum = dice(0, 2) == 0 ? dice(0, 100) : dice(0, 100000);
        int thing = derived ? 1 : 0;
        int author = right && any[0][act] ? Math.max(least, (int) ((long) sum * sums[0][act] / 1000)) : 0;
        author = Math.min(author, sum);
        int arranger = derived && any[1][act] ? Math.max(least, (int) ((long) sum * sums[1][act] / 1000)) : 0;
        arranger = Math.min(arranger, sum - author);
        due(right ? 1 : 0, x.right(0, 0, day), "right by " + text);
        due(author, x.paid(thing, 0, day, act, sum, minutes, 0), "paid to a by " + text);
        due(arranger, x.paid(thing, 0, day, act, sum, minutes, 1), "paid to r by " + text);
        due(sum - author - arranger, x.paid(thing, 0, day, act, sum, minutes, 2), "paid to the house by " + text);
    }

    public static void main(String[] args) {
        readings();
        layouts();
        tours();
        printRuns();
        trees();
        contracts();
        System.out.println(wrong == 0 ? "all is as what tries everything finds" : wrong + " answers are not as due");
        if (wrong != 0) {
            System.exit(1);
        }
    }
}
