/** The edges of promise 16, and of CALM, CHURNED, OPEN in promise 14. */
final class LightBoundaries extends Sentences {
    private static final String CHAIN = "chain 0 A 1 to B 1 light 1;";
    /** For a NEED of 5 the BOX is 10 .. 20, and another one is 40 .. 50. */
    private static final String TWO_BOXES =
        "push 9=0 to 0,10=5 to 5,20=5 to 5,21=0 to 0,39=0 to 0,40=5 to 5,50=5 to 5,51=0 to 0;";

    static void run() {
        made();
        spans();
        through();
        bars();
        limits();
    }

    private static void through(StarShells x, int shell, long least, long greatest) {
        due("through(0, " + shell + ", false)", x.through(0, shell, false), least);
        due("through(0, " + shell + ", true)", x.through(0, shell, true), greatest);
    }

    private static void made() {
        sentence(16, "TIMES are the lesser of parts / (the first number), cut, and the rate; light for each", () -> {
            StarShells x = with(WIDE + "chain 0 A 3 to B 3 light 7;rate 0 0=2 to 4;", "rate 0 0=0 to 0;",
                "rate 0 0=9999 to 9999;chain 0 A 1 to B 1 light 999;", "chain 0 A 1 to B 1 light 0;");
            shell(x, 0, 0);
            int[][] rows = {{0, 0, 0}, {2, 0, 0}, {3, 7, 7}, {5, 7, 7}, {6, 14, 14}, {8, 14, 14}, {9, 14, 21},
                {12, 14, 28}, {15, 14, 28}, {100000, 14, 28}};
            due("look(1)", x.look(1), true);
            for (int[] row : rows) {
                x.fill(0, 0, 0, row[0]);
                through(x, 0, row[1], row[2]);
            }
            due("look(2)", x.look(2), true);
            through(x, 0, 0, 0);
            due("look(3)", x.look(3), true);
            through(x, 0, 9989001, 9989001);
            x.fill(0, 0, 0, 9998);
            through(x, 0, 9988002, 9988002);
            due("look(4)", x.look(4), true);
            through(x, 0, 0, 0);
        });
    }

    /** A SHELL with a NEED of 5, whose CHAIN has parts enough. */
    private static StarShells withRate(String points) {
        StarShells x = with(TWO_BOXES + CHAIN + "rate 0 " + points + ";");
        shell(x, 0, 10);
        x.rules(0, 1, 1000);
        due("HEAT", x.of(0, 0, 3), 10);
        due("the greatest", x.of(0, 0, 4), 20);
        due("BOXES", x.of(0, 0, 2), 2);
        return x;
    }

    private static void spans() {
        sentence(16, "From the least (of the rates' LOWS at all HEATS of its SPAN) to the greatest (of their HIGHS)", () -> {
            through(withRate("9=9 to 9,10=5 to 6,20=5 to 6,21=0 to 0"), 0, 5, 6);
            through(withRate("9=0 to 0,10=5 to 6,20=5 to 6,21=9 to 9"), 0, 5, 6);
            through(withRate("9=3 to 3,10=1 to 9,11=3 to 3"), 0, 1, 9);
            through(withRate("19=3 to 3,20=1 to 9,21=3 to 3"), 0, 1, 9);
            through(withRate("14=3 to 3,15=1 to 9,16=3 to 3"), 0, 1, 9);
            through(withRate("10=1 to 1,20=8 to 8"), 0, 1, 8);
            through(withRate("10=8 to 8,20=1 to 1"), 0, 1, 8);
            // Lines that go on beyond the BOX: what they are at its ends, cut down and rounded up.
            through(withRate("0=0 to 0,30=10 to 10"), 0, 3, 7);
            through(withRate("0=10 to 10,30=0 to 0"), 0, 3, 7);
            // All of 8 POINTS in the BOX, the extremes first, last or between; then fewer, and none of the 8 is left.
            StarShells y = withRate("11=1 to 9,12=4 to 5,13=4 to 5,14=4 to 5,15=4 to 5,16=4 to 5,17=4 to 5,18=4 to 5");
            through(y, 0, 1, 9);
            tell(y, "haze 11=0 to 9999,12=0 to 0,13=0 to 0,14=0 to 0,15=0 to 0,16=0 to 0,17=0 to 0,18=0 to 9999;"
                + "rate 0 11=4 to 5,12=4 to 5,13=4 to 5,14=4 to 5,15=4 to 5,16=4 to 5,17=4 to 5,18=1 to 9;");
            through(y, 0, 1, 9);
            tell(y, "rate 0 11=4 to 5,12=4 to 5,13=4 to 5,14=4 to 5,15=0 to 8,16=4 to 5,17=4 to 5,18=4 to 5;");
            through(y, 0, 0, 8);
            tell(y, "rate 0 11=4 to 5,12=4 to 5,13=4 to 5,14=4 to 5;");
            through(y, 0, 4, 5);
            // The other BOX doesn't count.
            through(withRate("39=3 to 4,40=0 to 9,50=0 to 9"), 0, 3, 4);
        });
        sentence(16, "its SPAN of HEATS that BOX (of one without: 0 to 0)", () -> {
            StarShells x = with("push 0=5 to 5;" + CHAIN + "rate 0 0=3 to 4,1=0 to 9;haze 0=1000 to 1000,1=0 to 9999;");
            shell(x, 0, 100);
            x.rules(0, 1, 3);
            due("BOXES", x.of(0, 0, 2), 0);
            through(x, 0, 3, 4);
            due("OPEN", x.of(0, 0, 5), 2);
            x.rules(0, 1, 2);
            due("CHURNED", x.of(0, 0, 5), 1);
            x.rules(0, 1, 4);
            due("CALM", x.of(0, 0, 5), 0);
            x.rules(0, 10, 3);
            due("BOXES", x.of(0, 0, 2), 1);
            through(x, 0, 0, 9);
        });
    }

    private static void through() {
        sentence(16, "THROUGH a SHELL: what it and all below make, by all CHAINS (those that were told)", () -> {
            StarShells x = with("rate 0 0=1 to 2;rate 1 0=1 to 2;rate 2 0=1 to 2;rate 3 0=1 to 2;rate 4 0=1 to 2;" + WIDE,
                "chain 0 A 1 to B 1 light 1;chain 4 F 1 to A 1 light 100;", "chain 2 C 1 to D 1 light 10;",
                "rate 0 0=0 to 0;");
            shell(x, 0, 9, 9, 9, 9, 9, 9);
            shell(x, 0, 9, 9, 9, 9, 9, 9);
            shell(x, 0);
            shell(x, 0, 0, 0, 1);
            long[][] want = {{0, 0, 0, 0}, {0, 0, 0, 0}, {101, 202, 202, 202}, {111, 222, 222, 232}, {110, 220, 220, 230}};
            long[][] most = {{0, 0, 0, 0}, {0, 0, 0, 0}, {202, 404, 404, 404}, {222, 444, 444, 454}, {220, 440, 440, 450}};
            for (int time = 0; time <= 4; time++) {
                due("look(" + time + ")", x.look(time), true);
                for (int shell = 0; shell < 4; shell++) {
                    through(x, shell, want[time][shell], most[time][shell]);
                }
            }
        });
        sentence(16, "THROUGH a SHELL: the least (high false), the greatest", () -> {
            StarShells x = with(WIDE + "chain 0 A 1 to B 1 light 999;chain 1 A 1 to B 1 light 999;"
                + "chain 2 A 1 to B 1 light 999;chain 3 A 1 to B 1 light 999;chain 4 A 1 to B 1 light 999;",
                "rate 0 0=0 to 9999;rate 1 0=0 to 9999;rate 2 0=0 to 9999;rate 3 0=0 to 9999;rate 4 0=0 to 9999;");
            for (int shell = 0; shell < 16; shell++) {
                shell(x, 0, 100000);
            }
            x.rules(0, 100000, 0);
            through(x, 0, 0, 49945005L);
            through(x, 15, 0, 799120080L);
        });
        sentence(16, "NONE for others", () -> {
            StarShells x = with(WIDE);
            due("no SHELL", x.through(0, 0, true), NONE);
            shell(x, 0, 1);
            for (int far : FAR) {
                due("through(" + far + ", 0, ..)", x.through(far, 0, true), NONE);
                through(x, far, NONE, NONE);
            }
            due("through(2, 0, ..)", x.through(2, 0, false), NONE);
            due("through(1, 0, ..)", x.through(1, 0, false), NONE);
            through(x, 1, NONE, NONE);
            through(x, 16, NONE, NONE);
            through(x, 0, 0, 0);
        });
    }

    private static void mood(StarShells x, int limit, int want) {
        due("rules", x.rules(0, x.about(10), limit), true);
        due("of(0, 0, 5) by LIMIT " + limit, x.of(0, 0, 5), want);
    }

    private static void bars() {
        sentence(14, "BAR: THROUGH * haze (at all HEATS of its SPAN, least and greatest) / 1000, cut", () -> {
            int[][] hazes = {{0, 0}, {999, 0}, {1000, 1}, {1999, 1}, {2000, 2}, {9999, 9}};
            for (int[] row : hazes) {
                StarShells x = with(WIDE + CHAIN + "rate 0 0=1 to 1;haze 0=" + row[0] + " to " + row[0] + ";");
                shell(x, 0, 1);
                mood(x, row[1], 0);
                if (row[1] > 0) {
                    mood(x, row[1] - 1, 1);
                }
            }
            // Of the HEATS 10 .. 20 alone.
            String[] points = {"9=9999 to 9999,10=2000 to 4000,20=2000 to 4000,21=0 to 0",
                "14=3000 to 3000,15=2000 to 4000,16=3000 to 3000", "9=3000 to 3000,10=2000 to 4000,11=3000 to 3000",
                "19=3000 to 3000,20=2000 to 4000,21=3000 to 3000", "39=2000 to 4000,40=0 to 9999"};
            for (String row : points) {
                StarShells x = with(TWO_BOXES + CHAIN + "rate 0 0=1 to 1;", "haze " + row + ";");
                shell(x, 0, 10);
                x.rules(0, 1, 0);
                mood(x, 1, 1);
                mood(x, 2, 2);
                mood(x, 3, 2);
                mood(x, 4, 0);
            }
            StarShells x = with(WIDE + CHAIN + "rate 0 0=1 to 1;");
            shell(x, 0, 1);
            mood(x, 0, 0);
        });
        sentence(14, "It is CALM (0) if the greatest BAR is not above LIMIT (0 .. 1000000; at first 1000), "
            + "CHURNED (1) if the least is above it, else OPEN (2)", () -> {
            StarShells x = with(WIDE + CHAIN + "rate 0 0=5 to 7;haze 0=1000 to 2000;");
            shell(x, 0, 100);
            mood(x, 0, 1);
            mood(x, 4, 1);
            mood(x, 5, 2);
            mood(x, 13, 2);
            mood(x, 14, 0);
            mood(x, 1000000, 0);
            x.fill(0, 0, 0, 0);
            mood(x, 0, 0);
        });
    }

    private static void limits() {
        sentence(14, "5 CALM, CHURNED, OPEN (0, 1, 2)", () -> {
            // BARS of some 8 * 10^9 and, below, of 10^6 and one more.
            StarShells x = with(WIDE + "chain 0 A 1 to B 1 light 999;chain 1 A 1 to B 1 light 999;"
                + "chain 2 A 1 to B 1 light 999;chain 3 A 1 to B 1 light 999;chain 4 A 1 to B 1 light 999;",
                "rate 0 0=9999 to 9999;rate 1 0=9999 to 9999;rate 2 0=9999 to 9999;rate 3 0=9999 to 9999;"
                + "rate 4 0=9999 to 9999;haze 0=9999 to 9999;");
            for (int shell = 0; shell < 16; shell++) {
                shell(x, 0, 100000);
            }
            x.rules(0, 1, 1000000);
            for (int shell = 0; shell < 16; shell++) {
                due("of(0, " + shell + ", 5)", x.of(0, shell, 5), 1);
            }
            x = with(WIDE + CHAIN + "chain 1 C 1 to D 1 light 100;rate 0 0=9999 to 9999;rate 1 0=9999 to 9999;"
                + "haze 0=1000 to 1000;");
            shell(x, 0, 100, 0, 9999);
            mood(x, 1000000, 0);
            mood(x, 999999, 1);
            x.fill(0, 0, 0, 101);
            mood(x, 1000000, 1);
            tell(x, "haze 0=999 to 1000;");
            mood(x, 1000000, 2);
        });
    }
}
