import java.util.ArrayList;
import java.util.List;
import java.util.Random;

/**
 * Random runs of calls on StarShells and on its slow twin: both must answer alike. Argument: how many runs. Runs
 * go on beyond the 512th call, where the document leaves answers free: the class counts no calls, so what differs
 * there would be a fault all the same.
 */
public final class TwinTest {
    private static int wrong = 0;
    private static long calls = 0;

    private final Random random;
    private final int run;
    private final StarShells x = new StarShells();
    private final Twin y = new Twin();
    private final List<String> told = new ArrayList<>();

    private TwinTest(int run) {
        this.run = run;
        this.random = new Random(run);
    }

    public static void main(String[] args) {
        int runs = args.length > 0 ? Integer.parseInt(args[0]) : 400;
        int first = args.length > 1 ? Integer.parseInt(args[1]) : 0;
        for (int run = first; run < first + runs && wrong == 0; run++) {
            new TwinTest(run).play();
        }
        System.out.println(runs + " runs, " + calls + " calls, " + wrong + " wrong");
        if (wrong != 0) {
            System.exit(1);
        }
    }

    private boolean same(String call, long got, long want) {
        calls++;
        told.add(call + " answered " + got);
        if (got != want && wrong == 0) {
            wrong++;
            System.out.println("run " + run + ":");
            for (String row : told) {
                System.out.println("  " + row);
            }
            System.out.println("  the twin: " + want);
        }
        return got == want;
    }

    private boolean same(String call, boolean got, boolean want) {
        return same(call, got ? 1 : 0, want ? 1 : 0);
    }

    private int upTo(int most) {
        return random.nextInt(most + 1);
    }

    private boolean chance(int percent) {
        return random.nextInt(100) < percent;
    }

    /** Mostly one of least .. greatest, now and then one beside or far off. */
    private int near(int least, int greatest) {
        if (chance(4)) {
            int[] odd = {least - 1, greatest + 1, Integer.MIN_VALUE, Integer.MAX_VALUE, -1, least, greatest};
            return odd[random.nextInt(odd.length)];
        }
        return least + random.nextInt(greatest - least + 1);
    }

    private int star() {
        return near(0, 1);
    }

    private int shellOf(int star) {
        int count = star == 0 || star == 1 ? y.about(2 + star) : 1;
        return near(0, Math.max(count - 1, 0));
    }

    private void play() {
        boolean feast = chance(70);
        if (feast) {
            for (int i = 0; i < 3; i++) {
                tell(new Texts(random).lively());
            }
            int many = chance(80) ? 1 + upTo(6) : 1 + upTo(15);
            for (int i = 0; i < many; i++) {
                addShell(0);
            }
            for (int i = 0; i < upTo(4); i++) {
                addShell(1);
            }
        }
        int length = 40 + upTo(120);
        for (int i = 0; i < length && wrong == 0; i++) {
            call(upTo(99));
        }
    }

    private void addShell(int star) {
        int shell = x.shell(star);
        same("shell(" + star + ")", shell, y.shell(star));
        for (int kind = 0; kind < 6 && shell >= 0; kind++) {
            if (chance(60)) {
                fill(star, shell, kind, upTo(chance(10) ? 100000 : 900));
            }
        }
    }

    private void fill(int star, int shell, int kind, int parts) {
        same("fill(" + star + ", " + shell + ", " + kind + ", " + parts + ")",
            x.fill(star, shell, kind, parts), y.fill(star, shell, kind, parts));
    }

    private void tell(String text) {
        StringBuilder padded = new StringBuilder(text);
        int length = Math.min(text.length(), 400);
        padded.setLength(length);
        while (padded.length() % 20 != 0) {
            padded.append(' ');
        }
        int ahead = y.about(7);
        for (int at = 0; at < padded.length(); at += 20) {
            int[] w = new int[5];
            for (int i = 0; i < 20; i++) {
                w[i / 4] = w[i / 4] << 8 | padded.charAt(at + i) & 255;
            }
            feed(w);
        }
        same("end(" + (ahead + length) + ")", x.end(ahead + length), y.end(ahead + length));
        read(text);
    }

    private void feed(int[] w) {
        same("feed(" + java.util.Arrays.toString(w) + ")", x.feed(w[0], w[1], w[2], w[3], w[4]), y.feed(w));
    }

    private void read(String text) {
        same("text() of " + text, x.text(), y.text());
        same("fault(0)", x.fault(0), y.fault(0));
        same("fault(1)", x.fault(1), y.fault(1));
    }

    private void call(int dice) {
        int star = star();
        int shell = shellOf(star);
        int kind = near(0, 5);
        int chain = near(0, 4);
        if (dice < 8) {
            tell(chance(50) ? new Texts(random).lively() : new Texts(random).spoilt());
        } else if (dice < 10) {
            tapeCalls();
        } else if (dice < 14) {
            int time = near(0, Math.max(y.about(0), 0));
            same("look(" + time + ")", x.look(time), y.look(time));
        } else if (dice < 22) {
            lawCalls(kind, chain);
        } else if (dice < 25) {
            addShell(random.nextInt(2));
            same("shell(9)", x.shell(9), y.shell(9));
        } else if (dice < 30) {
            fill(star, shell, kind, chance(70) ? near(0, 900) : near(0, 100000));
        } else if (dice < 34) {
            int unit = chance(70) ? near(1, 40) : near(1, 100000);
            int limit = chance(70) ? near(0, 1500) : near(0, 1000000);
            same("rules(" + star + ", " + unit + ", " + limit + ")",
                x.rules(star, unit, limit), y.rules(star, unit, limit));
        } else if (dice < 50) {
            shellCalls(star, shell, kind);
        } else if (dice < 62) {
            stepCalls(star, shell, chain);
        } else if (dice < 68) {
            int n = chance(60) ? near(1, 900) : near(1, 100000);
            same("hand(" + star + ", " + n + ")", x.hand(star, n), y.hand(star, n));
        } else if (dice < 76) {
            sheetCalls(star, chain);
        } else if (dice < 90) {
            toneCalls(star);
        } else if (dice < 93) {
            same("image()", x.image(), y.image());
        } else if (dice < 95) {
            same("back()", x.back(), y.back());
        } else {
            for (int what = -1; what < 24; what++) {
                same("about(" + what + ")", x.about(what), y.about(what));
            }
        }
    }

    private void tapeCalls() {
        int[] w = {random.nextInt(), random.nextInt(), random.nextInt(), random.nextInt(), random.nextInt()};
        for (int i = 0; i < upTo(22); i++) {
            feed(w);
        }
        int n = near(0, 400);
        same("end(" + n + ")", x.end(n), y.end(n));
        same("end(0)", x.end(0), y.end(0));
        same("fault(2)", x.fault(2), y.fault(2));
        same("fault(-1)", x.fault(-1), y.fault(-1));
    }

    private void lawCalls(int kind, int chain) {
        same("weight(" + kind + ")", x.weight(kind), y.weight(kind));
        int what = near(0, 4);
        same("chain(" + chain + ", " + what + ")", x.chain(chain, what), y.chain(chain, what));
        int table = near(0, 6);
        for (int i = 0; i < 10; i++) {
            int heat = near(0, 999);
            boolean high = random.nextBoolean();
            same("law(" + table + ", " + heat + ", " + high + ")", x.law(table, heat, high), y.law(table, heat, high));
        }
    }

    private void shellCalls(int star, int shell, int kind) {
        for (int what = -1; what <= 6; what++) {
            same("of(" + star + ", " + shell + ", " + what + ")", x.of(star, shell, what), y.of(star, shell, what));
        }
        for (int k = -1; k < 4; k++) {
            same("box(" + star + ", " + shell + ", " + k + ", f)",
                x.box(star, shell, k, false), y.box(star, shell, k, false));
            same("box(" + star + ", " + shell + ", " + k + ", t)",
                x.box(star, shell, k, true), y.box(star, shell, k, true));
        }
        same("through(" + star + ", " + shell + ", f)", x.through(star, shell, false), y.through(star, shell, false));
        same("through(" + star + ", " + shell + ", t)", x.through(star, shell, true), y.through(star, shell, true));
        same("settled(" + star + ")", x.settled(star), y.settled(star));
        same("parts(" + star + ", " + shell + ", " + kind + ")",
            x.parts(star, shell, kind), y.parts(star, shell, kind));
    }

    private void stepCalls(int star, int shell, int chain) {
        int n = chance(70) ? near(1, 3) : near(1, 50);
        same("steps(" + star + ", " + n + ")", x.steps(star, n), y.steps(star, n));
        same("about(4)", x.about(4), y.about(4));
        same("about(5)", x.about(5), y.about(5));
        for (int i = 0; i < 4; i++) {
            int event = near(0, Math.max(y.about(5), 1));
            for (int what = -1; what <= 5; what++) {
                same("event(" + event + ", " + what + ")", x.event(event, what), y.event(event, what));
            }
        }
        same("light(" + star + ", " + shell + ", " + chain + ")",
            x.light(star, shell, chain), y.light(star, shell, chain));
        for (int kind = 0; kind < 6; kind++) {
            same("parts(" + star + ", " + shell + ", " + kind + ")",
                x.parts(star, shell, kind), y.parts(star, shell, kind));
        }
    }

    private void sheetCalls(int star, int chain) {
        if (chance(30)) {
            same("sheet(" + star + ")", x.sheet(star), y.sheet(star));
        }
        if (chance(60)) {
            int shell = near(0, 15);
            long mask = chance(90) ? random.nextLong() : 0;
            same("alter(" + shell + ", " + chain + ", " + mask + ")",
                x.alter(shell, chain, mask), y.alter(shell, chain, mask));
            if (chance(50)) {
                same("alter(" + shell + ", " + chain + ", " + mask + ")",
                    x.alter(shell, chain, mask), y.alter(shell, chain, mask));
            }
        }
        for (int what = -1; what <= 3; what++) {
            same("check(" + what + ")", x.check(what), y.check(what));
        }
    }

    private void toneCalls(int star) {
        int n = near(0, 400);
        same("below(" + star + ", " + n + ")", x.below(star, n), y.below(star, n));
        int small = near(0, 60);
        same("below(" + star + ", " + small + ")", x.below(star, small), y.below(star, small));
        int k = near(0, 6);
        int box = x.tone(star, k);
        same("tone(" + star + ", " + k + ")", box, y.tone(star, k));
        if (chance(30)) {
            int from = near(Math.max(box - 3, 0), Math.max(box, 0));
            int to = near(Math.max(box, 0), Math.min(box + 20, 400));
            same("seen(" + star + ", " + k + ", " + from + ", " + to + ")",
                x.seen(star, k, from, to), y.seen(star, k, from, to));
        }
        if (chance(20)) {
            int rim = Math.max(0, y.about(2 + (star & 1)) - 1);
            int light = (int) Math.max(0, y.through(star & 1, rim, random.nextBoolean()));
            int from = near(light / 2, light + 2);
            int to = near(light, 2 * light + 3);
            same("seen(" + star + ", -1, " + from + ", " + to + ")",
                x.seen(star, -1, from, to), y.seen(star, -1, from, to));
        }
        if (chance(25)) {
            int found = x.fits(star, -1);
            same("fits(" + star + ", -1)", found, y.fits(star, -1));
            int i = near(0, Math.max(found, 0));
            same("fits(" + star + ", " + i + ")", x.fits(star, i), y.fits(star, i));
        }
    }

    /** Texts that say much, and texts with something wrong. */
    private static final class Texts {
        private final Random random;
        private final List<String> clauses = new ArrayList<>();

        Texts(Random random) {
            this.random = random;
        }

        String lively() {
            if (random.nextInt(5) > 0) {
                clauses.add("push " + push() + ";");
            }
            if (random.nextInt(3) > 0) {
                clauses.add("haze " + points(random.nextInt(2) == 0 ? 9999 : 1200) + ";");
            }
            chains();
            java.util.Collections.shuffle(clauses, random);
            if (random.nextInt(8) == 0 && !clauses.isEmpty()) {
                clauses.add(clauses.get(0));
            }
            StringBuilder text = new StringBuilder();
            for (String clause : clauses) {
                if (text.length() + clause.length() < 390) {
                    text.append(random.nextInt(4) == 0 ? " \n" : "").append(clause);
                }
            }
            return text.toString();
        }

        private void chains() {
            int gives = random.nextInt(10) == 0 ? 1 + random.nextInt(9) : 3;
            int number = random.nextInt(5);
            for (int i = 0; i < random.nextInt(4); i++) {
                number = (number + 1) % 5;
                int first = random.nextInt(5) == 0 ? 5 : random.nextInt(5);
                int second = (first + 1 + random.nextInt(5)) % 6;
                // F is told to weigh some parts of the others, which weigh one.
                int a = random.nextInt(3) == 0 ? 1 + random.nextInt(9) : 1;
                int b = a;
                if (first == 5) {
                    a = 1;
                    b = gives;
                } else if (second == 5) {
                    a = gives;
                    b = 1;
                }
                clauses.add("chain " + number + " " + (char) ('A' + first) + " " + a + " to "
                    + (char) ('A' + second) + " " + b + " light " + random.nextInt(200) + ";");
                clauses.add("rate " + number + " " + points(random.nextInt(9) == 0 ? 9999 : 60) + ";");
            }
            if (random.nextInt(3) > 0) {
                clauses.add("kind F " + gives + ";");
            }
            if (random.nextInt(20) == 0) {
                clauses.add("kind A " + gives + ";");
            }
        }

        /** Mostly such that many a NEED has a BOX: rising, falling, wide, or as it comes. */
        private String push() {
            int top = random.nextInt(4) == 0 ? 9999 : 100 + random.nextInt(900);
            int wide = random.nextInt(60);
            switch (random.nextInt(6)) {
                case 0:
                case 1:
                    return "0=0 to " + wide + "," + (2 + random.nextInt(998)) + "=" + top + " to " + top;
                case 2:
                    return "0=" + top + " to " + top + "," + (2 + random.nextInt(998)) + "=0 to " + wide;
                case 3:
                    return zigzag(top);
                case 4:
                    return "7=0 to " + top;
                default:
                    return points(top);
            }
        }

        private String zigzag(int top) {
            StringBuilder text = new StringBuilder();
            int heat = random.nextInt(20);
            int count = 2 + random.nextInt(7);
            for (int i = 0; i < count && heat < 1000; i++) {
                int low = i % 2 == 0 ? 0 : top;
                text.append(i > 0 ? "," : "").append(heat).append("=").append(low).append(" to ")
                    .append(Math.min(9999, low + random.nextInt(9)));
                heat += 1 + random.nextInt(180);
            }
            return text.toString();
        }

        private String points(int most) {
            StringBuilder text = new StringBuilder();
            int heat = random.nextInt(3) == 0 ? 0 : random.nextInt(60);
            int count = 1 + random.nextInt(random.nextInt(3) == 0 ? 8 : 4);
            for (int i = 0; i < count && heat < 1000; i++) {
                int low = random.nextInt(most / 2 + 1);
                int high = low + random.nextInt(most - low + 1);
                text.append(i > 0 ? "," : "").append(heat).append(random.nextInt(2) == 0 ? "=" : " = ")
                    .append(low).append(" to ").append(high);
                heat += 1 + random.nextInt(random.nextInt(2) == 0 ? 400 : 30);
            }
            return text.toString();
        }

        String spoilt() {
            StringBuilder text = new StringBuilder(lively());
            int times = 1 + random.nextInt(2);
            for (int i = 0; i < times && text.length() > 0; i++) {
                int at = random.nextInt(text.length());
                String all = " \n0123456789=,;.ABCDEFGabkindtopushhazeratelight";
                char other = random.nextInt(8) == 0 ? (char) random.nextInt(256)
                    : all.charAt(random.nextInt(all.length()));
                switch (random.nextInt(5)) {
                    case 0: text.setCharAt(at, other); break;
                    case 1: text.insert(at, other); break;
                    case 2: text.deleteCharAt(at); break;
                    case 3: text.setLength(at); break;
                    default: swapNumber(text, at); break;
                }
            }
            return text.toString();
        }

        private void swapNumber(StringBuilder text, int at) {
            String[] numbers = {"0", "00", "1", "4", "5", "9", "10", "99", "100", "999", "1000", "9999", "10000",
                "007", "4294967297", "99999999999999999999", " A ", " B ", " ; ", ","};
            int from = at;
            while (from < text.length() && !Character.isDigit(text.charAt(from))) {
                from++;
            }
            int to = from;
            while (to < text.length() && Character.isDigit(text.charAt(to))) {
                to++;
            }
            text.replace(from, to, numbers[random.nextInt(numbers.length)]);
        }
    }
}
