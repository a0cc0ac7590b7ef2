import java.util.Random;

/** The Terms I to III from their first line: the words that name no edge, held against other answers of the class. */
final class TermBoundaries extends Sentences {
    private static final int[] NO_STARS = {LEAST, -2, -1, 2, 3, GREATEST};

    static void run() {
        fiveHundredCalls();
        looks();
        clauses();
        tables();
        stars();
        settling();
        light();
        burning();
        sheets();
    }

    private static void fiveHundredCalls() {
        sentence(1, "An object is used for at most 512 calls after it has been made", () -> {
            StarShells x = new StarShells();
            int calls = 0;
            for (int time = 1; time <= 30; time++) {
                // "kind", " A 0", "0000", "0001", "0;  " and so on: 2 calls for each TIME.
                int weight = 0x30303030 | time / 10 << 8 | time % 10;
                due("feed", x.feed(0x6b696e64, 0x20412030, 0x30303030, weight, 0x3b202020), 20);
                due("text()", x.text(), time);
                calls += 2;
            }
            for (int shell = 0; shell < 16; shell++) {
                due("shell(1)", x.shell(1), shell);
                due("fill", x.fill(1, shell, 0, shell + 1), true);
                calls += 2;
            }
            for (; calls < 510; calls += 2) {
                int time = calls % 31;
                due("look(" + time + ")", x.look(time), true);
                due("of(1, 15, 0)", x.of(1, 15, 0), 16 * Math.max(time, 1));
            }
            due("the 511th: back()", x.back(), 0);
            due("the 512th: about(3)", x.about(3), 0);
        });
    }

    private static void looks() {
        sentence(6, "THE LOOK: a TIME", () -> {
            StarShells x = new StarShells();
            for (int time = 0; time <= 30; time++) {
                for (int look = time; look >= 0; look--) {
                    if (time % 6 == 0) {
                        due("look(" + look + ")", x.look(look), true);
                        due("THE LOOK", x.about(1), look);
                    }
                }
                due("none above the TIME", x.look(time + 1), false);
                due("THE LOOK stays", x.about(1), time % 6 == 0 ? 0 : time);
                due("text()", x.text(), time < 30 ? time + 1 : NONE);
            }
        });
    }

    private static void clauses() {
        sentence(4, "= , ; .", () -> {
            // Each is a TOKEN by itself, with and without blanks beside it; the last one has no place.
            StarShells x = with("push\n3\n=\n1\nto\n2\n,\n5\n=\n7\nto\n8\n;haze 0=4to5;");
            due("push at 3", x.law(0, 3, false), 1);
            due("push at 5", x.law(0, 5, true), 8);
            due("haze", x.law(1, 0, true), 5);
            due("CLAUSES", x.about(8), 2);
            fault("push 0==1 to 2;", 1, 7);
            fault("push 0=1 to 2,,5=7 to 8;", 1, 14);
            fault("push 0=1 to 2;;", 1, 14);
            fault(";", 1, 0);
            fault("kind A 1;.", 1, 9);
            fault("kind A 1.", 1, 8);
        });
        sentence(4, "CLAUSE: kind KIND NUMBER ;", () -> {
            for (int kind = 0; kind < 6; kind++) {
                for (int weight = 1; weight <= 99; weight += 7) {
                    StarShells x = with("kind " + (char) ('A' + kind) + " " + weight + ";");
                    due("weight(" + kind + ")", x.weight(kind), weight);
                    due("CLAUSES", x.about(8), 1);
                }
            }
        });
        sentence(4, "or chain NUMBER KIND NUMBER to KIND NUMBER light NUMBER ;", () -> {
            Random random = new Random(4);
            for (int chain = 0; chain < 5; chain++) {
                for (int first = 0; first < 6; first++) {
                    for (int second = 0; second < 6; second++) {
                        if (first != second) {
                            chainTold(chain, first, 1 + random.nextInt(9), second, 1 + random.nextInt(9));
                        }
                    }
                }
            }
        });
        sentence(4, "another one", () -> {
            for (int chain = 0; chain < 5; chain++) {
                for (char first = 'A'; first <= 'F'; first++) {
                    for (char second = 'A'; second <= 'F'; second++) {
                        fault("chain " + chain + " " + first + " 2 to " + second + " 2 light 1;",
                            first == second ? 3 : 0, 15);
                    }
                }
            }
        });
    }

    /** So that both sides weigh the same, each KIND weighs as much as the other one has parts. */
    private static void chainTold(int chain, int first, int takes, int second, int gives) {
        int light = 37 * takes + gives;
        char one = (char) ('A' + first);
        char other = (char) ('A' + second);
        StarShells x = with("chain " + chain + " " + one + " " + takes + " to " + other + " " + gives
            + " light " + light + ";kind " + one + " " + gives + ";kind " + other + " " + takes + ";");
        int[] want = {first, takes, second, gives, light};
        for (int what = 0; what < 5; what++) {
            due("chain(" + chain + ", " + what + ")", x.chain(chain, what), want[what]);
        }
    }

    private static void tables() {
        sentence(4, "or TABLE POINTS ;", () -> {
            String[] names = {"push", "haze", "rate 0", "rate 1", "rate 2", "rate 3", "rate 4"};
            for (int table = 0; table < names.length; table++) {
                StarShells x = with(names[table] + " 10=20 to 30;");
                for (int other = 0; other < names.length; other++) {
                    due("law(" + other + ", 10, false)", x.law(other, 10, false), other == table ? 20 : 0);
                    due("law(" + other + ", 10, true)", x.law(other, 10, true), other == table ? 30 : 0);
                }
            }
        });
        sentence(4, "POINT: NUMBER = NUMBER to NUMBER", () -> {
            StarShells x = with("rate 3 0=1 to 2,100=300 to 400,999=5 to 9999;");
            int[][] points = {{0, 1, 2}, {100, 300, 400}, {999, 5, 9999}};
            for (int[] point : points) {
                due("LOW", x.law(5, point[0], false), point[1]);
                due("HIGH", x.law(5, point[0], true), point[2]);
            }
        });
        sentence(9, "SPAN of a TABLE at a HEAT: at a POINT its LOW and HIGH", () -> {
            // What is cut down is the greatest whole number not above the line, what is rounded up the least not below.
            StarShells x = with("haze 0=0 to 5,7=3 to 9,20=9999 to 9999,999=1 to 2;");
            int[][] points = {{0, 0, 5}, {7, 3, 9}, {20, 9999, 9999}, {999, 1, 2}};
            for (int i = 0; i + 1 < points.length; i++) {
                int[] left = points[i];
                int[] right = points[i + 1];
                int wide = right[0] - left[0];
                for (int heat = left[0]; heat <= right[0]; heat += heat < 20 ? 1 : 11) {
                    long low = (long) left[1] * (right[0] - heat) + (long) right[1] * (heat - left[0]);
                    long high = (long) left[2] * (right[0] - heat) + (long) right[2] * (heat - left[0]);
                    long cut = (long) x.law(1, heat, false) * wide;
                    long round = (long) x.law(1, heat, true) * wide;
                    due("LOW at " + heat, cut <= low && cut + wide > low, true);
                    due("HIGH at " + heat, round >= high && round - wide < high, true);
                }
            }
        });
    }

    /** What a STAR answers to the same calls. */
    private static String story(StarShells x, int star) {
        StringBuilder told = new StringBuilder();
        told.append(x.shell(star)).append(' ').append(x.shell(star)).append(' ');
        told.append(x.fill(star, 0, 0, 40)).append(x.fill(star, 1, 1, 60)).append(x.rules(star, 1, 3)).append(' ');
        for (int what = 0; what < 6; what++) {
            told.append(x.of(star, 0, what)).append(' ').append(x.of(star, 1, what)).append(' ');
        }
        told.append(x.box(star, 0, 0, true)).append(' ').append(x.through(star, 1, true)).append(' ');
        told.append(x.settled(star)).append(x.below(star, 3)).append(x.tone(star, 1)).append(' ');
        told.append(x.seen(star, 0, 2, 2)).append(' ').append(x.fits(star, NONE)).append(x.fits(star, 0)).append(' ');
        told.append(x.steps(star, 2)).append(' ').append(x.light(star, 0, 0)).append(' ');
        told.append(x.sheet(star)).append(x.alter(0, 0, 5)).append(x.check(0)).append(' ');
        told.append(x.parts(star, 0, 0)).append(' ').append(x.parts(star, 1, 1)).append(' ');
        return told.append(x.about(2 + star)).append(x.about(10 + star)).append(x.about(20 + star)).toString();
    }

    private static void stars() {
        sentence(10, "STARS 0 and 1", () -> {
            String text = IDENTITY + "chain 0 A 1 to B 1 light 2;rate 0 0=1 to 1;haze 0=1000 to 1000;";
            StarShells x = with(text);
            StarShells y = with(text);
            due("both STARS are alike", story(x, 0).equals(story(y, 1)), true);
            due("the other has no SHELLS", x.about(3) + y.about(2), 0);
            due("nor is it SETTLED", x.settled(1) + y.settled(0), 0);
            due("its UNIT", x.about(11), 100);
            due("its LIMIT", y.about(20), 1000);
            due("the EVENT's STAR", x.event(0, 1), 0);
            due("the EVENT's STAR", y.event(0, 1), 1);
            due("what was SEEN is of one STAR", y.fits(0, NONE), 0);
            for (int star : NO_STARS) {
                noStar(x, star);
            }
        });
    }

    private static void noStar(StarShells x, int star) {
        due("shell", x.shell(star), NONE);
        due("fill", x.fill(star, 0, 0, 1), false);
        due("parts", x.parts(star, 0, 0), NONE);
        due("rules", x.rules(star, 1, 1), false);
        due("of", x.of(star, 0, 0), NONE);
        due("box", x.box(star, 0, 0, false), NONE);
        due("through", x.through(star, 0, false), NONE);
        due("settled", x.settled(star), NONE);
        due("steps", x.steps(star, 1), NONE);
        due("hand", x.hand(star, 1), false);
        due("light", x.light(star, 0, 0), NONE);
        due("sheet", x.sheet(star), false);
        due("below", x.below(star, 0), NONE);
        due("tone", x.tone(star, 0), NONE);
        due("seen", x.seen(star, 0, 0, 0), NONE);
        due("fits", x.fits(star, NONE), NONE);
    }

    private static void settling() {
        sentence(14, "NEED: (the WEIGHTS of all SHELLS above it", () -> {
            StarShells x = with("kind B 7;kind F 99;");
            Random random = new Random(14);
            for (int shell = 0; shell < 16; shell++) {
                shell(x, 1, random.nextInt(1000), random.nextInt(1000), 0, 0, 0, random.nextInt(100001));
            }
            for (int unit : new int[] {1, 7, 100000}) {
                x.rules(1, unit, 0);
                int above = 0;
                for (int shell = 15; shell >= 0; shell--) {
                    int weight = x.of(1, shell, 0);
                    due("NEED of " + shell + " by " + unit, x.of(1, shell, 1), (above + weight / 2) / unit);
                    above += weight;
                }
            }
        });
        sentence(17, "SETTLED: each SHELL has a BOX", () -> {
            for (int middle = 0; middle <= 12; middle++) {
                // NEEDS of 0 .. 6 have BOXES, 5 none, and some of them more than one.
                StarShells x = with("push 0=6 to 6,1=0 to 0,2=4 to 4,3=0 to 3,4=6 to 6,5=0 to 0;");
                shell(x, 0, middle);
                shell(x, 0, 0);
                x.rules(0, 1, 0);
                for (int rim = 0; rim <= 12; rim++) {
                    x.fill(0, 1, 0, rim);
                    int one = x.of(0, 0, 2);
                    int other = x.of(0, 1, 2);
                    int want = one == 0 || other == 0 ? 0 : one == 1 && other == 1 ? 2 : 1;
                    due("settled(0) of " + middle + " and " + rim, x.settled(0), want);
                }
            }
        });
    }

    /** What a CHAIN makes in a SHELL, by the answers of other calls alone: TIMES at every HEAT of its first BOX. */
    private static long made(StarShells x, int shell, int chain, int[] rates, boolean high) {
        int most = x.parts(0, shell, x.chain(chain, 0)) / x.chain(chain, 1);
        int from = Math.max(x.box(0, shell, 0, false), 0);
        int to = Math.max(x.box(0, shell, 0, true), 0);
        int best = Math.min(most, rates[from]);
        for (int heat = from; heat <= to; heat++) {
            int times = Math.min(most, rates[heat]);
            best = high ? Math.max(best, times) : Math.min(best, times);
        }
        return (long) best * x.chain(chain, 4);
    }

    /** A rate at the HEATS that can be, asked of an object of its own, as each is used for few calls. */
    private static int[] rates(String text, int chain, boolean high) {
        StarShells x = with(text);
        int[] rates = new int[LAST_HEAT + 1];
        for (int heat = 0; heat <= LAST_HEAT; heat++) {
            rates[heat] = x.law(2 + chain, heat, high);
        }
        return rates;
    }

    /** No SHELL of these tests is hotter. */
    private static final int LAST_HEAT = 60;
    private static final String TWO_CHAINS = "kind B 2;chain 1 A 2 to B 1 light 7;chain 3 C 1 to D 1 light 3;";

    private static void light() {
        sentence(16, "THROUGH a SHELL: what it and all below make, by all CHAINS (those that were told): "
            + "from the least to the greatest", () -> {
            Random random = new Random(16);
            for (int round = 0; round < 30; round++) {
                String text = TWO_CHAINS + "rate 1 " + points(random, 40) + ";rate 3 " + points(random, 90) + ";"
                    + "push 0=0 to 9,30=" + random.nextInt(99) + " to 99,60=900 to 900,61=9999 to 9999;";
                int unit = 1 + random.nextInt(9);
                int[][] parts = new int[3][4];
                for (int[] row : parts) {
                    row[0] = random.nextInt(60);
                    row[2] = random.nextInt(60);
                    row[3] = random.nextInt(60);
                }
                throughAll(text, unit, parts, false);
                throughAll(text, unit, parts, true);
            }
        });
        sentence(21, "LIGHT made in a step by a CHAIN in a SHELL: TIMES are the lesser of", () -> {
            // Where rates are one number each and no CHAIN has another's KINDS, a STEP makes what THROUGH says.
            StarShells x = with(WIDE + TWO_CHAINS + "rate 1 0=4 to 4;rate 3 0=9 to 9;");
            for (int shell = 0; shell < 6; shell++) {
                shell(x, 0, 3 * shell, 0, 5 * shell);
            }
            long told = x.through(0, 5, false);
            due("the least is the greatest", x.through(0, 5, true), told);
            due("steps(0, 1)", x.steps(0, 1), 1);
            long sum = 0;
            for (int shell = 0; shell < 6; shell++) {
                due("light(0, " + shell + ", 1)", x.light(0, shell, 1), 7 * Math.min(3 * shell / 2, 4));
                due("light(0, " + shell + ", 3)", x.light(0, shell, 3), 3 * Math.min(5 * shell, 9));
                sum += x.light(0, shell, 1) + x.light(0, shell, 3);
            }
            due("all of it", sum, told);
        });
    }

    private static void throughAll(String text, int unit, int[][] parts, boolean high) {
        StarShells x = with(text);
        x.rules(0, unit, 1000);
        for (int[] row : parts) {
            shell(x, 0, row);
        }
        int[][] rates = {{}, rates(text, 1, high), {}, rates(text, 3, high)};
        long sum = 0;
        for (int shell = 0; shell < parts.length; shell++) {
            sum += made(x, shell, 1, rates[1], high) + made(x, shell, 3, rates[3], high);
            due("through(0, " + shell + ", " + high + ")", x.through(0, shell, high), sum);
        }
    }

    /** One to four POINTS with LOWS up to a number. */
    private static String points(Random random, int most) {
        StringBuilder text = new StringBuilder();
        int heat = random.nextInt(20);
        int count = 1 + random.nextInt(4);
        for (int point = 0; point < count; point++) {
            int low = random.nextInt(most + 1);
            text.append(point > 0 ? "," : "").append(heat).append("=").append(low).append(" to ");
            text.append(low + random.nextInt(most + 1));
            heat += 1 + random.nextInt(20);
        }
        return text.toString();
    }

    private static void burning() {
        sentence(18, "(1) SHELL by SHELL, CHAIN by CHAIN: "
            + "TIMES (by the rate's LOW at its HEAT, and the parts there are by then): parts go and come", () -> {
            // A goes to B, B to C and C to D: all the way in one STEP, as each CHAIN has what the one ahead made.
            StarShells x = with(WIDE + "kind A 3;chain 0 A 1 to B 3 light 1;chain 1 B 1 to C 1 light 1;"
                + "chain 2 C 1 to D 1 light 1;rate 0 0=3 to 9;rate 1 0=2 to 9;rate 2 0=1 to 9;");
            shell(x, 0, 5);
            shell(x, 0, 0, 5);
            due("steps(0, 1)", x.steps(0, 1), 1);
            parts(x, 0, 0, 2, 7, 1, 1, 0, 0);
            parts(x, 0, 1, 0, 3, 1, 1, 0, 0);
            // The other way round each has to wait for the next STEP.
            x = with(WIDE + "chain 2 A 1 to B 1 light 1;chain 1 B 1 to C 1 light 1;chain 0 C 1 to D 1 light 1;"
                + "rate 2 0=3 to 9;rate 1 0=2 to 9;rate 0 0=1 to 9;");
            shell(x, 0, 5);
            int[][] want = {{2, 3, 0, 0}, {0, 3, 2, 0}, {0, 1, 3, 1}, {0, 0, 3, 2}};
            for (int[] row : want) {
                due("steps(0, 1)", x.steps(0, 1), 1);
                parts(x, 0, 0, row);
            }
        });
        sentence(18, "light is made", () -> {
            StarShells x = with(WIDE + "kind B 2;chain 4 A 2 to B 1 light 999;rate 4 0=9999 to 9999;");
            shell(x, 0, 100000);
            shell(x, 0, 1);
            int[] times = {9999, 9999, 9999, 9999, 9999, 5, 0};
            long sum = 0;
            for (int burnt : times) {
                due("steps(0, 1)", x.steps(0, 1), 1);
                sum += burnt;
                due("light(0, 0, 4)", x.light(0, 0, 4), 999 * sum);
                parts(x, 0, 0, (int) (100000 - 2 * sum), (int) sum);
            }
            due("too few parts", x.light(0, 1, 4), 0);
        });
        sentence(19, "then LIT: it made some light there", () -> {
            // Of one CHAIN BURNT OUT comes ahead of LIT, and all of a CHAIN ahead of the next one's.
            StarShells x = with(WIDE + "chain 0 A 1 to B 1 light 1;chain 1 C 1 to D 1 light 1;"
                + "rate 0 0=9 to 9;rate 1 0=9 to 9;");
            shell(x, 0, 1, 0, 1);
            shell(x, 0, 1, 0, 99);
            due("steps(0, 1)", x.steps(0, 1), 1);
            int[][] want = {{0, 0, 0, 0, 0}, {0, 0, 0, 0, 1}, {0, 0, 0, 1, 0}, {0, 0, 0, 1, 1}, {0, 0, 1, 0, 0},
                {0, 0, 1, 0, 1}, {0, 0, 1, 1, 1}};
            for (int i = 0; i < want.length; i++) {
                event(x, i, want[i]);
            }
            event(x, want.length);
        });
    }

    private static void sheets() {
        sentence(20, "HANDED over: n parts", () -> {
            Random random = new Random(20);
            for (int round = 0; round < 20; round++) {
                StarShells x = new StarShells();
                int[] rim = new int[6];
                int all = 0;
                for (int kind = 0; kind < 6; kind++) {
                    rim[kind] = random.nextInt(4) * random.nextInt(50);
                    all += rim[kind];
                }
                shell(x, 1, rim);
                shell(x, 0);
                int n = 1 + random.nextInt(all + 20);
                due("hand(1, " + n + ")", x.hand(1, n), n <= all);
                int came = 0;
                for (int kind = 0; kind < 6; kind++) {
                    due("none is lost", x.parts(0, 0, kind) + x.parts(1, 0, kind), rim[kind]);
                    came += x.parts(0, 0, kind);
                }
                due("n came, or nothing", came, n <= all ? n : 0);
            }
        });
        sentence(22, "SHEET: that of a STAR is taken", () -> {
            StarShells x = with(WIDE + "chain 0 A 1 to B 1 light 5;rate 0 0=1 to 1;");
            shell(x, 0, 9);
            shell(x, 1, 9);
            shell(x, 1, 9);
            for (int star = 0; star < 2; star++) {
                due("sheet(" + star + ")", x.sheet(star), true);
                due("as THE BOOK is", x.check(0), 0);
                due("a STEP of the other STAR", x.steps(1 - star, 1), 1);
                due("THE BOOK of this one is the same", x.check(0), 0);
                due("a STEP of this one", x.steps(star, 1), 1);
                due("in each of its SHELLS", x.check(0), 1 + star);
            }
        });
        sentence(23, "altered by masks (exclusive or)", () -> {
            StarShells x = with(WIDE + "chain 0 A 1 to B 1 light 6;rate 0 0=1 to 1;");
            shell(x, 0, 9);
            due("sheet(0)", x.sheet(0), true);
            due("a STEP makes 6", x.steps(0, 1), 1);
            long[] masks = {5, 3, 1L << 63, 1, 1L << 63, 2, 2};
            long place = 0;
            for (long mask : masks) {
                due("alter(0, 0, " + mask + ")", x.alter(0, 0, mask), true);
                place ^= mask;
                due("check(0) behind " + mask, x.check(0), place == 6 ? 0 : 1);
            }
        });
        sentence(24, "CHECKED: how many places are other than THE BOOK's, and which, if it is one", () -> {
            StarShells x = new StarShells();
            due("sheet(1)", x.sheet(1), true);
            for (int place = 0; place < 80; place++) {
                due("alter", x.alter(place / 5, place % 5, 1L << place % 64), true);
                due("check(0)", x.check(0), place + 1);
                due("check(1)", x.check(1), place == 0 ? 0 : NONE);
            }
            for (int place = 0; place < 79; place++) {
                due("alter", x.alter(place / 5, place % 5, 1L << place % 64), true);
            }
            due("check(0)", x.check(0), 1);
            due("check(1)", x.check(1), 15);
            due("check(2)", x.check(2), 4);
        });
    }
}
