import java.math.BigInteger;
import java.util.ArrayList;
import java.util.Arrays;
import java.util.HashMap;
import java.util.List;
import java.util.Map;
import java.util.TreeMap;
import java.util.regex.Matcher;
import java.util.regex.Pattern;

/**
 * The document once more, slow and in other ways than the class: HEATS one by one, TONES by the signs of a
 * characteristic polynomial, laws looked up text by text. TwinTest holds both against one another.
 */
final class Twin {
    static final class Fault extends RuntimeException {
        private static final long serialVersionUID = 1L;
        final int number;
        final int place;

        Fault(int number, int place) {
            this.number = number;
            this.place = place;
        }
    }

    static final class Told {
        final Map<Integer, Integer> kinds = new TreeMap<>();
        final Map<Integer, int[]> chains = new TreeMap<>();
        final Map<Integer, List<int[]>> tables = new TreeMap<>();
        int clauses;
    }

    static final class State {
        List<Told> texts = new ArrayList<>();
        int look;
        List<List<int[]>> stars = new ArrayList<>();
        int[] unit = {100, 100};
        int[] limit = {1000, 1000};
        Map<String, Long> book = new HashMap<>();
        List<List<String>> shone = new ArrayList<>();
        int steps;
        List<int[]> events = new ArrayList<>();
        List<int[]> seen = new ArrayList<>();

        State() {
            for (int star = 0; star < 2; star++) {
                stars.add(new ArrayList<>());
                shone.add(new ArrayList<>());
            }
        }

        State copy() {
            State c = new State();
            c.texts = new ArrayList<>(texts);
            c.look = look;
            for (int star = 0; star < 2; star++) {
                for (int[] shell : stars.get(star)) {
                    c.stars.get(star).add(shell.clone());
                }
                c.shone.set(star, new ArrayList<>(shone.get(star)));
            }
            c.unit = unit.clone();
            c.limit = limit.clone();
            c.book = new HashMap<>(book);
            c.steps = steps;
            c.events = new ArrayList<>(events);
            c.seen = new ArrayList<>(seen);
            return c;
        }
    }

    private State s = new State();
    private State kept = new State();
    private String tape = "";
    private int[] latest;
    private Integer sheetStar;
    private final Map<String, Long> sheet = new HashMap<>();

    // ---- texts

    int feed(int... words) {
        if (tape.length() + 20 > 400) {
            return -1;
        }
        for (int word : words) {
            byte[] bytes = java.nio.ByteBuffer.allocate(4).putInt(word).array();
            tape += new String(bytes, java.nio.charset.StandardCharsets.ISO_8859_1);
        }
        return tape.length();
    }

    int end(int n) {
        if (n < 0 || n > tape.length()) {
            return -1;
        }
        tape = tape.substring(0, n);
        return n;
    }

    int text() {
        if (s.texts.size() == 30) {
            return -1;
        }
        String read = tape;
        tape = "";
        try {
            Told told = new TwinText(read).read();
            List<Told> then = new ArrayList<>(s.texts);
            then.add(told);
            for (int c = 0; c < 5; c++) {
                int[] chain = chainOf(then, c);
                if (chain != null && chain[1] * weightOf(then, chain[0]) != chain[3] * weightOf(then, chain[2])) {
                    throw new Fault(6, read.length());
                }
            }
            s.texts = then;
            s.look = then.size();
            latest = new int[] {0, -1};
            return then.size();
        } catch (Fault fault) {
            latest = new int[] {fault.number, fault.place};
            return -1;
        }
    }

    int fault(int what) {
        return latest == null || what != 0 && what != 1 ? -1 : latest[what];
    }

    boolean look(int time) {
        if (time < 0 || time > s.texts.size()) {
            return false;
        }
        s.look = time;
        return true;
    }

    // ---- laws

    private static int weightOf(List<Told> texts, int kind) {
        int weight = 1;
        for (Told told : texts) {
            weight = told.kinds.getOrDefault(kind, weight);
        }
        return weight;
    }

    private static int[] chainOf(List<Told> texts, int chain) {
        int[] found = null;
        for (Told told : texts) {
            found = told.chains.getOrDefault(chain, found);
        }
        return found;
    }

    private List<Told> lookTexts() {
        return s.texts.subList(0, s.look);
    }

    private List<int[]> tableOf(int table) {
        List<int[]> found = List.of();
        for (Told told : lookTexts()) {
            found = told.tables.getOrDefault(table, found);
        }
        return found;
    }

    int weight(int kind) {
        return kind < 0 || kind > 5 ? -1 : weightOf(lookTexts(), kind);
    }

    int chain(int chain, int what) {
        int[] it = chainOf(lookTexts(), chain);
        return it == null || what < 0 || what > 4 ? -1 : it[what];
    }

    int law(int table, int heat, boolean high) {
        if (table < 0 || table > 6 || heat < 0 || heat > 999) {
            return -1;
        }
        int[] span = span(tableOf(table), heat);
        return high ? span[1] : span[0];
    }

    private static int[] span(List<int[]> points, int heat) {
        int[] before = null;
        for (int[] point : points) {
            if (point[0] == heat) {
                return new int[] {point[1], point[2]};
            }
            if (point[0] > heat) {
                if (before == null) {
                    return new int[] {point[1], point[2]};
                }
                int x = heat - before[0];
                int den = point[0] - before[0];
                return new int[] {
                    before[1] + Math.floorDiv((point[1] - before[1]) * x, den),
                    before[2] - Math.floorDiv((before[2] - point[2]) * x, den)
                };
            }
            before = point;
        }
        return before == null ? new int[] {0, 0} : new int[] {before[1], before[2]};
    }

    private int[][] spans(int table) {
        List<int[]> points = tableOf(table);
        int[][] all = new int[1000][];
        for (int heat = 0; heat < 1000; heat++) {
            all[heat] = span(points, heat);
        }
        return all;
    }

    // ---- shells

    private boolean isStar(int star) {
        return star == 0 || star == 1;
    }

    private boolean isShell(int star, int shell) {
        return isStar(star) && shell >= 0 && shell < s.stars.get(star).size();
    }

    int shell(int star) {
        if (!isStar(star) || s.stars.get(star).size() == 16) {
            return -1;
        }
        s.stars.get(star).add(new int[6]);
        return s.stars.get(star).size() - 1;
    }

    boolean fill(int star, int shell, int kind, int parts) {
        if (!isShell(star, shell) || kind < 0 || kind > 5 || parts < 0 || parts > 100000) {
            return false;
        }
        s.stars.get(star).get(shell)[kind] = parts;
        return true;
    }

    int parts(int star, int shell, int kind) {
        return isShell(star, shell) && kind >= 0 && kind < 6 ? s.stars.get(star).get(shell)[kind] : -1;
    }

    boolean rules(int star, int unit, int limit) {
        if (!isStar(star) || unit < 1 || unit > 100000 || limit < 0 || limit > 1000000) {
            return false;
        }
        s.unit[star] = unit;
        s.limit[star] = limit;
        return true;
    }

    private long shellWeight(int star, int shell) {
        long sum = 0;
        for (int kind = 0; kind < 6; kind++) {
            sum += (long) weight(kind) * parts(star, shell, kind);
        }
        return sum;
    }

    private long need(int star, int shell, int unit) {
        long sum = shellWeight(star, shell) / 2;
        for (int above = shell + 1; above < s.stars.get(star).size(); above++) {
            sum += shellWeight(star, above);
        }
        return sum / unit;
    }

    private List<int[]> boxes(int[][] push, long need) {
        List<int[]> runs = new ArrayList<>();
        boolean open = false;
        for (int heat = 0; heat < 1000; heat++) {
            boolean can = push[heat][0] <= need && need <= push[heat][1];
            if (can && open) {
                runs.get(runs.size() - 1)[1] = heat;
            } else if (can) {
                runs.add(new int[] {heat, heat});
            }
            open = can;
        }
        return runs;
    }

    private List<List<int[]>> allBoxes(int star, int unit) {
        int[][] push = spans(0);
        List<List<int[]>> all = new ArrayList<>();
        for (int shell = 0; shell < s.stars.get(star).size(); shell++) {
            all.add(boxes(push, need(star, shell, unit)));
        }
        return all;
    }

    private static boolean isSettled(List<List<int[]>> all) {
        return !all.isEmpty() && all.stream().noneMatch(List::isEmpty);
    }

    int of(int star, int shell, int what) {
        if (!isShell(star, shell)) {
            return -1;
        }
        List<int[]> runs = allBoxes(star, s.unit[star]).get(shell);
        if (what == 0) {
            return (int) shellWeight(star, shell);
        } else if (what == 1) {
            return (int) need(star, shell, s.unit[star]);
        } else if (what == 2) {
            return runs.size();
        } else if (what == 3 || what == 4) {
            return runs.isEmpty() ? -1 : runs.get(0)[what - 3];
        } else if (what == 5) {
            return moods(star).get(shell);
        }
        return -1;
    }

    int box(int star, int shell, int k, boolean high) {
        if (!isShell(star, shell)) {
            return -1;
        }
        List<int[]> runs = allBoxes(star, s.unit[star]).get(shell);
        return k < 0 || k >= runs.size() ? -1 : runs.get(k)[high ? 1 : 0];
    }

    /** The least and the greatest of all HEATS, one by one. */
    private int[] extremes(int table, List<int[]> runs) {
        int[] box = runs.isEmpty() ? new int[] {0, 0} : runs.get(0);
        List<int[]> points = tableOf(table);
        int[] found = {Integer.MAX_VALUE, Integer.MIN_VALUE};
        for (int heat = box[0]; heat <= box[1]; heat++) {
            int[] here = span(points, heat);
            found[0] = Math.min(found[0], here[0]);
            found[1] = Math.max(found[1], here[1]);
        }
        return found;
    }

    private List<long[]> throughs(int star, List<List<int[]>> all) {
        List<long[]> rows = new ArrayList<>();
        long[] sum = {0, 0};
        for (int shell = 0; shell < all.size(); shell++) {
            for (int c = 0; c < 5; c++) {
                int[] chain = chainOf(lookTexts(), c);
                if (chain != null) {
                    int[] rate = extremes(2 + c, all.get(shell));
                    int most = parts(star, shell, chain[0]) / chain[1];
                    for (int side = 0; side < 2; side++) {
                        sum[side] += (long) Math.min(most, rate[side]) * chain[4];
                    }
                }
            }
            rows.add(sum.clone());
        }
        return rows;
    }

    private List<Integer> moods(int star) {
        List<List<int[]>> all = allBoxes(star, s.unit[star]);
        List<long[]> through = throughs(star, all);
        List<Integer> moods = new ArrayList<>();
        for (int shell = 0; shell < all.size(); shell++) {
            int[] haze = extremes(1, all.get(shell));
            boolean greatestAbove = through.get(shell)[1] * haze[1] / 1000 > s.limit[star];
            boolean leastAbove = through.get(shell)[0] * haze[0] / 1000 > s.limit[star];
            moods.add(!greatestAbove ? 0 : leastAbove ? 1 : 2);
        }
        return moods;
    }

    long through(int star, int shell, boolean high) {
        if (!isShell(star, shell)) {
            return -1;
        }
        return throughs(star, allBoxes(star, s.unit[star])).get(shell)[high ? 1 : 0];
    }

    int settled(int star) {
        if (!isStar(star)) {
            return -1;
        }
        List<List<int[]>> all = allBoxes(star, s.unit[star]);
        if (!isSettled(all)) {
            return 0;
        }
        return all.stream().allMatch(runs -> runs.size() == 1) ? 2 : 1;
    }

    // ---- steps

    int steps(int star, int n) {
        if (!isStar(star) || n < 1 || n > 50) {
            return -1;
        }
        int made = 0;
        while (made < n && s.steps < 300 && settled(star) > 0) {
            step(star);
            made++;
        }
        return made;
    }

    private void step(int star) {
        List<List<int[]>> all = allBoxes(star, s.unit[star]);
        List<Integer> moods = moods(star);
        List<String> shining = new ArrayList<>();
        for (int shell = 0; shell < all.size(); shell++) {
            burn(star, shell, all.get(shell).get(0)[0], shining);
        }
        s.shone.set(star, shining);
        for (int kind = 0; kind < 6; kind++) {
            int at = 0;
            while (at < all.size()) {
                int stop = at;
                while (stop < all.size() && moods.get(stop) == 1) {
                    stop++;
                }
                mix(star, kind, at, stop);
                at = Math.max(stop, at + 1);
            }
        }
        s.steps++;
    }

    private void burn(int star, int shell, int heat, List<String> shining) {
        int[] parts = s.stars.get(star).get(shell);
        int[] ahead = parts.clone();
        for (int c = 0; c < 5; c++) {
            int[] chain = chainOf(lookTexts(), c);
            if (chain == null) {
                continue;
            }
            int rate = span(tableOf(2 + c), heat)[0];
            long light = 0;
            for (int time = 0; time < rate; time++) {
                if (parts[chain[0]] < chain[1] || parts[chain[2]] + chain[3] > 100000) {
                    break;
                }
                parts[chain[0]] -= chain[1];
                parts[chain[2]] += chain[3];
                light += chain[4];
            }
            s.book.merge(star + "/" + shell + "/" + c, light, Long::sum);
            if (light > 0) {
                shining.add(shell + "/" + c);
            }
        }
        for (int c = 0; c < 5; c++) {
            int[] chain = chainOf(lookTexts(), c);
            if (chain != null && parts[chain[0]] < chain[1] && ahead[chain[0]] >= chain[1]) {
                s.events.add(new int[] {s.steps, star, shell, c, 0});
            }
            String place = shell + "/" + c;
            if (shining.contains(place) && !s.shone.get(star).contains(place)) {
                s.events.add(new int[] {s.steps, star, shell, c, 1});
            }
        }
    }

    private void mix(int star, int kind, int from, int stop) {
        int sum = 0;
        for (int shell = from; shell < stop; shell++) {
            sum += s.stars.get(star).get(shell)[kind];
        }
        for (int shell = from; shell < stop; shell++) {
            int left = stop - shell;
            int mine = (sum + left - 1) / left;
            s.stars.get(star).get(shell)[kind] = mine;
            sum -= mine;
        }
    }

    int event(int i, int what) {
        if (i < 0 || i >= about(5) || what < 0 || what > 4) {
            return -1;
        }
        return s.events.get(i)[what];
    }

    boolean hand(int from, int n) {
        if (!isStar(from) || n < 1 || n > 100000) {
            return false;
        }
        List<int[]> one = s.stars.get(from);
        List<int[]> two = s.stars.get(1 - from);
        if (one.isEmpty() || two.isEmpty()) {
            return false;
        }
        int[] gives = one.get(one.size() - 1).clone();
        int[] takes = two.get(two.size() - 1).clone();
        for (int part = 0, kind = 0; part < n; part++) {
            while (kind < 6 && gives[kind] == 0) {
                kind++;
            }
            if (kind == 6) {
                return false;
            }
            gives[kind]--;
            takes[kind]++;
        }
        if (Arrays.stream(takes).anyMatch(parts -> parts > 100000)) {
            return false;
        }
        one.set(one.size() - 1, gives);
        two.set(two.size() - 1, takes);
        return true;
    }

    // ---- book and sheet

    private long booked(int star, int shell, int chain) {
        return s.book.getOrDefault(star + "/" + shell + "/" + chain, 0L);
    }

    long light(int star, int shell, int chain) {
        return isShell(star, shell) && chain >= 0 && chain < 5 ? booked(star, shell, chain) : -1;
    }

    boolean sheet(int star) {
        if (!isStar(star)) {
            return false;
        }
        sheetStar = star;
        for (int place = 0; place < 80; place++) {
            sheet.put(place / 5 + "/" + place % 5, booked(star, place / 5, place % 5));
        }
        return true;
    }

    boolean alter(int shell, int chain, long mask) {
        if (sheetStar == null || shell < 0 || shell > 15 || chain < 0 || chain > 4 || mask == 0) {
            return false;
        }
        sheet.merge(shell + "/" + chain, mask, (a, b) -> a ^ b);
        return true;
    }

    int check(int what) {
        if (sheetStar == null || what < 0 || what > 2) {
            return -1;
        }
        List<int[]> other = new ArrayList<>();
        for (int shell = 0; shell < 16; shell++) {
            for (int chain = 0; chain < 5; chain++) {
                if (sheet.get(shell + "/" + chain) != booked(sheetStar, shell, chain)) {
                    other.add(new int[] {shell, chain});
                }
            }
        }
        return what == 0 ? other.size() : other.size() == 1 ? other.get(0)[what - 1] : -1;
    }

    // ---- tones

    /** Null without TONES; else how many are below each of 0 .. 400. */
    private int[] belows(List<List<int[]>> all) {
        int n = all.size();
        if (!isSettled(all) || n > 7) {
            return null;
        }
        BigInteger[][] table = new BigInteger[n][n];
        for (BigInteger[] row : table) {
            Arrays.fill(row, BigInteger.ZERO);
        }
        for (int i = 0; i < n; i++) {
            int mine = all.get(i).get(0)[0] / 10;
            int upper = i + 1 < n ? all.get(i + 1).get(0)[0] / 10 : 0;
            table[i][i] = BigInteger.valueOf(mine + upper);
            if (i + 1 < n) {
                table[i][i + 1] = BigInteger.valueOf(-upper);
                table[i + 1][i] = table[i][i + 1];
            }
        }
        BigInteger[] poly = characteristic(table);
        int[] below = new int[401];
        for (int x = 0; x <= 400; x++) {
            below[x] = positiveRoots(mirrored(shifted(poly, x)));
        }
        return below;
    }

    /** Coefficients of det(xI - M), the lowest first, by Faddeev and LeVerrier. */
    private static BigInteger[] characteristic(BigInteger[][] m) {
        int n = m.length;
        BigInteger[] c = new BigInteger[n + 1];
        c[n] = BigInteger.ONE;
        BigInteger[][] a = new BigInteger[n][n];
        for (BigInteger[] row : a) {
            Arrays.fill(row, BigInteger.ZERO);
        }
        for (int k = 1; k <= n; k++) {
            BigInteger[][] next = times(m, a);
            for (int i = 0; i < n; i++) {
                next[i][i] = next[i][i].add(c[n - k + 1]);
            }
            a = next;
            BigInteger trace = BigInteger.ZERO;
            BigInteger[][] product = times(m, a);
            for (int i = 0; i < n; i++) {
                trace = trace.add(product[i][i]);
            }
            c[n - k] = trace.negate().divide(BigInteger.valueOf(k));
        }
        return c;
    }

    private static BigInteger[][] times(BigInteger[][] a, BigInteger[][] b) {
        int n = a.length;
        BigInteger[][] c = new BigInteger[n][n];
        for (int i = 0; i < n; i++) {
            for (int j = 0; j < n; j++) {
                BigInteger sum = BigInteger.ZERO;
                for (int k = 0; k < n; k++) {
                    sum = sum.add(a[i][k].multiply(b[k][j]));
                }
                c[i][j] = sum;
            }
        }
        return c;
    }

    /** p(y + x), by Horner. */
    private static BigInteger[] shifted(BigInteger[] p, int x) {
        BigInteger[] q = p.clone();
        for (int i = 0; i < q.length - 1; i++) {
            for (int j = q.length - 2; j >= i; j--) {
                q[j] = q[j].add(q[j + 1].multiply(BigInteger.valueOf(x)));
            }
        }
        return q;
    }

    private static BigInteger[] mirrored(BigInteger[] p) {
        BigInteger[] q = p.clone();
        for (int i = 1; i < q.length; i += 2) {
            q[i] = q[i].negate();
        }
        return q;
    }

    /** All roots are real, so Descartes' rule counts them exactly. */
    private static int positiveRoots(BigInteger[] p) {
        int changes = 0;
        int sign = 0;
        for (BigInteger c : p) {
            if (c.signum() != 0) {
                if (sign != 0 && c.signum() != sign) {
                    changes++;
                }
                sign = c.signum();
            }
        }
        return changes;
    }

    int below(int star, int n) {
        if (!isStar(star) || n < 0 || n > 400) {
            return -1;
        }
        int[] below = belows(allBoxes(star, s.unit[star]));
        return below == null ? -1 : below[n];
    }

    private static int toneBox(int[] below, int tones, int k) {
        if (below == null || k < 0 || k >= tones) {
            return -1;
        }
        int box = 400;
        while (below[box] > k) {
            box--;
        }
        return box;
    }

    int tone(int star, int k) {
        if (!isStar(star)) {
            return -1;
        }
        return toneBox(belows(allBoxes(star, s.unit[star])), s.stars.get(star).size(), k);
    }

    int seen(int star, int k, int from, int to) {
        if (!isStar(star) || k < -1 || k > 6 || from < 0 || from > to || s.seen.size() == 20) {
            return -1;
        }
        if (to > (k == -1 ? 1000000000 : 400)) {
            return -1;
        }
        s.seen.add(new int[] {star, k, from, to});
        return s.seen.size();
    }

    int fits(int star, int i) {
        if (!isStar(star) || i < -1) {
            return -1;
        }
        List<Integer> units = new ArrayList<>();
        for (int unit = 1; unit <= 200; unit++) {
            List<List<int[]>> all = allBoxes(star, unit);
            if (isSettled(all) && seenFits(star, all)) {
                units.add(unit);
            }
        }
        return i == -1 ? units.size() : i < units.size() ? units.get(i) : -1;
    }

    private boolean seenFits(int star, List<List<int[]>> all) {
        int[] below = belows(all);
        List<long[]> through = throughs(star, all);
        long[] light = through.get(through.size() - 1);
        for (int[] sight : s.seen) {
            if (sight[0] == star && sight[1] == -1) {
                if (Math.max(light[0], sight[2]) > Math.min(light[1], sight[3])) {
                    return false;
                }
            } else if (sight[0] == star) {
                int box = toneBox(below, all.size(), sight[1]);
                if (box < sight[2] || box > sight[3]) {
                    return false;
                }
            }
        }
        return true;
    }

    // ---- image

    int image() {
        kept = s.copy();
        return s.texts.size();
    }

    int back() {
        s = kept.copy();
        return s.texts.size();
    }

    int about(int what) {
        int time = s.texts.size();
        switch (what) {
            case 0: return time;
            case 1: return s.look;
            case 2: return s.stars.get(0).size();
            case 3: return s.stars.get(1).size();
            case 4: return s.steps;
            case 5: return Math.min(s.events.size(), 200);
            case 6: return s.seen.size();
            case 7: return tape.length();
            case 8: return time == 0 ? 0 : s.texts.get(time - 1).clauses;
            case 10: return s.unit[0];
            case 11: return s.unit[1];
            case 20: return s.limit[0];
            case 21: return s.limit[1];
            default: return -1;
        }
    }

    /** Reads a text by the patterns of its clauses. */
    static final class TwinText {
        private static final Pattern TOKEN = Pattern.compile("[a-zA-Z]+|[0-9]+|[^ \\n]");
        private static final String[] KIND = {"=kind", "K", "1..99", "=;"};
        private static final String[] CHAIN =
            {"=chain", "C", "k", "1..9", "=to", "k2", "1..9", "=light", "0..999", "=;"};

        private final List<String> words = new ArrayList<>();
        private final List<Integer> places = new ArrayList<>();
        private final Told told = new Told();
        private int at;
        private final List<Integer> got = new ArrayList<>();

        TwinText(String text) {
            Matcher m = TOKEN.matcher(text);
            while (m.find()) {
                words.add(m.group());
                places.add(m.start());
            }
            words.add("");
            places.add(text.length());
        }

        Told read() {
            while (at < words.size() - 1) {
                got.clear();
                switch (words.get(at)) {
                    case "kind":
                        for (String part : KIND) {
                            expect(part);
                        }
                        told.kinds.put(got.get(0), got.get(1));
                        break;
                    case "chain":
                        for (String part : CHAIN) {
                            expect(part);
                        }
                        told.chains.put(got.get(0), got.subList(1, 6).stream().mapToInt(x -> x).toArray());
                        break;
                    case "push":
                    case "haze":
                    case "rate":
                        table();
                        break;
                    default:
                        throw fault(1);
                }
                told.clauses++;
            }
            return told;
        }

        private void table() {
            String word = words.get(at);
            int table = word.equals("push") ? 0 : 1;
            if (word.equals("rate")) {
                expect("=rate");
                table = 2 + number(0, 4);
            }
            if (told.tables.containsKey(table)) {
                throw fault(4);
            }
            at++;
            List<int[]> points = new ArrayList<>();
            told.tables.put(table, points);
            int ahead = -1;
            do {
                int heat = number(ahead + 1, 999);
                if (points.size() == 8) {
                    throw fault(5);
                }
                at++;
                expect("==");
                int low = number(0, 9999);
                at++;
                expect("=to");
                int high = number(low, 9999);
                at++;
                points.add(new int[] {heat, low, high});
                ahead = heat;
            } while (words.get(at++).equals(","));
            at--;
            expect("=;");
        }

        private Fault fault(int number) {
            return new Fault(number, places.get(at));
        }

        private int number(int from, int to) {
            if (!words.get(at).matches("[0-9]+")) {
                throw fault(1);
            }
            BigInteger value = new BigInteger(words.get(at));
            if (value.compareTo(BigInteger.valueOf(from)) < 0 || value.compareTo(BigInteger.valueOf(to)) > 0) {
                throw fault(2);
            }
            return value.intValue();
        }

        private int kind() {
            if (!words.get(at).matches("[A-F]")) {
                throw fault(1);
            }
            return words.get(at).charAt(0) - 'A';
        }

        private void expect(String part) {
            if (part.startsWith("=")) {
                if (!words.get(at).equals(part.substring(1))) {
                    throw fault(1);
                }
            } else if (part.equals("K")) {
                if (told.kinds.containsKey(kind())) {
                    throw fault(4);
                }
                got.add(kind());
            } else if (part.equals("C")) {
                if (told.chains.containsKey(number(0, 4))) {
                    throw fault(4);
                }
                got.add(number(0, 4));
            } else if (part.startsWith("k")) {
                if (part.equals("k2") && got.get(1) == kind()) {
                    throw fault(3);
                }
                got.add(kind());
            } else {
                String[] ends = part.split("\\.\\.");
                got.add(number(Integer.parseInt(ends[0]), Integer.parseInt(ends[1])));
            }
            at++;
        }
    }
}
