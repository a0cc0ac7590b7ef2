/** The edges of promises 20 to 24: parts that are HANDED over, THE BOOK and THE SHEET. */
final class BookBoundaries extends Sentences {
    private static final String BURNING = WIDE + "chain 0 A 1 to B 1 light 5;chain 4 A 1 to C 1 light 3;"
        + "rate 0 0=1 to 1;rate 4 0=1 to 1;";

    static void run() {
        handing();
        handingNothing();
        books();
        sheets();
        altering();
        checking();
    }

    private static void handing() {
        sentence(20, "KIND by KIND, A first, as many as there are, up to n in all", () -> {
            int[][][] rows = {{{1}, {1, 2, 3, 4, 5, 6}, {1, 0, 0, 0, 0, 0}}, {{2}, {1, 2, 3, 4, 5, 6}, {1, 1, 0, 0, 0, 0}},
                {{3}, {1, 2, 3, 4, 5, 6}, {1, 2, 0, 0, 0, 0}}, {{4}, {0, 2, 0, 4, 5, 6}, {0, 2, 0, 2, 0, 0}},
                {{21}, {1, 2, 3, 4, 5, 6}, {1, 2, 3, 4, 5, 6}}, {{20}, {1, 2, 3, 4, 5, 6}, {1, 2, 3, 4, 5, 5}},
                {{100000}, {100000, 9, 0, 0, 0, 0}, {100000, 0, 0, 0, 0, 0}},
                {{100000}, {50000, 49999, 100000, 0, 0, 0}, {50000, 49999, 1, 0, 0, 0}},
                {{1}, {0, 0, 0, 0, 0, 1}, {0, 0, 0, 0, 0, 1}}};
            for (int[][] row : rows) {
                StarShells x = new StarShells();
                shell(x, 0, 9, 9, 9, 9, 9, 9);
                shell(x, 0, row[1]);
                shell(x, 1, 8, 8, 8, 8, 8, 8);
                shell(x, 1);
                due("hand(0, " + row[0][0] + ")", x.hand(0, row[0][0]), true);
                for (int kind = 0; kind < 6; kind++) {
                    due("what stays", x.parts(0, 1, kind), row[1][kind] - row[2][kind]);
                    due("what came", x.parts(1, 1, kind), row[2][kind]);
                }
                // Below the rims nothing is given or taken.
                parts(x, 0, 0, 9, 9, 9, 9, 9, 9);
                parts(x, 1, 0, 8, 8, 8, 8, 8, 8);
            }
        });
        sentence(20, "HANDED over: true", () -> {
            StarShells x = new StarShells();
            shell(x, 0, 1);
            shell(x, 1);
            due("hand(0, 1)", x.hand(0, 1), true);
            due("it has no more", x.hand(0, 1), false);
            due("hand(1, 1)", x.hand(1, 1), true);
            parts(x, 0, 0, 1);
            parts(x, 1, 0, 0);
        });
        sentence(20, "n parts (of all KINDS together) of a STAR's rim to the other one's rim", () -> {
            StarShells x = new StarShells();
            shell(x, 0, 5);
            shell(x, 1, 7);
            due("hand(1, 3)", x.hand(1, 3), true);
            parts(x, 0, 0, 8);
            parts(x, 1, 0, 4);
            due("hand(0, 8)", x.hand(0, 8), true);
            parts(x, 0, 0, 0);
            parts(x, 1, 0, 12);
            shell(x, 1, 0, 2);
            due("the rim is another one", x.hand(1, 3), false);
            due("hand(1, 2)", x.hand(1, 2), true);
            parts(x, 0, 0, 0, 2);
            for (int shell = 0; shell < 16; shell++) {
                x.shell(0);
                x.shell(1);
            }
            x.fill(0, 15, 5, 2);
            due("rims of 16", x.hand(0, 1), true);
            parts(x, 0, 15, 0, 0, 0, 0, 0, 1);
            parts(x, 1, 15, 0, 0, 0, 0, 0, 1);
        });
    }

    private static void handingNothing() {
        sentence(20, "nothing, if the rim has fewer", () -> {
            StarShells x = new StarShells();
            shell(x, 0, 100);
            shell(x, 0, 1, 2, 0, 0, 0, 3);
            shell(x, 1, 4);
            due("hand(0, 7)", x.hand(0, 7), false);
            due("hand(0, 100000)", x.hand(0, 100000), false);
            parts(x, 0, 1, 1, 2, 0, 0, 0, 3);
            parts(x, 1, 0, 4, 0, 0, 0, 0, 0);
            due("all it has", x.hand(0, 6), true);
            parts(x, 1, 0, 5, 2, 0, 0, 0, 3);
            due("an empty rim", x.hand(0, 1), false);
        });
        sentence(20, "or a KIND would be above 100000 there", () -> {
            for (int kind = 0; kind < 6; kind++) {
                StarShells x = new StarShells();
                int[] gives = {1, 1, 1, 1, 1, 1};
                gives[kind] = 5;
                shell(x, 0, gives);
                shell(x, 1, 2, 2, 2, 2, 2, 2);
                x.fill(1, 0, kind, 99996);
                // kind parts of those ahead of it, then up to 4 are fine.
                due("one too many", x.hand(0, kind + 5), false);
                due("all", x.hand(0, 10), false);
                parts(x, 0, 0, gives);
                due("stays", x.parts(1, 0, kind), 99996);
                due("stays", x.parts(1, 0, (kind + 1) % 6), 2);
                due("as many as there is room for", x.hand(0, kind + 4), true);
                due("full", x.parts(1, 0, kind), 100000);
                due("left", x.parts(0, 0, kind), 1);
            }
            // A KIND that isn't come to, or of which none goes, may be full.
            StarShells x = new StarShells();
            shell(x, 0, 3, 0, 5);
            shell(x, 1, 0, 100000, 100000);
            due("hand(0, 3)", x.hand(0, 3), true);
            due("hand(0, 1)", x.hand(0, 1), false);
            due("back", x.hand(1, 3), true);
            parts(x, 0, 0, 3, 0, 5);
        });
        sentence(20, "False for others (n 1 .. 100000), nothing, or a STAR has no SHELLS", () -> {
            StarShells x = new StarShells();
            due("both have none", x.hand(0, 1), false);
            shell(x, 0, 100000, 100000);
            due("the other has none", x.hand(0, 1), false);
            due("it has none itself", x.hand(1, 1), false);
            parts(x, 0, 0, 100000, 100000);
            shell(x, 1);
            for (int far : FAR) {
                due("hand(" + far + ", 1)", x.hand(far, 1), false);
                due("hand(0, " + far + ")", x.hand(0, far), false);
            }
            due("hand(2, 1)", x.hand(2, 1), false);
            due("hand(0, 0)", x.hand(0, 0), false);
            due("hand(0, 100001)", x.hand(0, 100001), false);
            parts(x, 0, 0, 100000, 100000);
            parts(x, 1, 0, 0, 0);
            due("hand(0, 100000)", x.hand(0, 100000), true);
            parts(x, 0, 0, 0, 100000);
            due("hand(1, 1)", x.hand(1, 1), true);
            parts(x, 0, 0, 1, 100000);
        });
    }

    private static void books() {
        sentence(21, "THE BOOK: light by STAR, SHELL, CHAIN (all STEPS together)", () -> {
            StarShells x = with(BURNING);
            shell(x, 0, 100);
            shell(x, 0, 1);
            shell(x, 1, 2);
            due("light(0, 0, 0)", x.light(0, 0, 0), 0);
            due("steps(0, 3)", x.steps(0, 3), 3);
            due("steps(1, 2)", x.steps(1, 2), 2);
            long[][] want = {{15, 0, 0, 0, 9}, {5, 0, 0, 0, 0}, {5, 0, 0, 0, 3}};
            for (int chain = 0; chain < 5; chain++) {
                due("light(0, 0, " + chain + ")", x.light(0, 0, chain), want[0][chain]);
                due("light(0, 1, " + chain + ")", x.light(0, 1, chain), want[1][chain]);
                due("light(1, 0, " + chain + ")", x.light(1, 0, chain), want[2][chain]);
            }
            due("look(0)", x.look(0), true);
            due("it stays, whatever THE LAWS", x.light(0, 0, 4), 9);
            // More than an int holds: 300 STEPS of 9999 TIMES and 999 of light.
            x = with(WIDE + "chain 0 A 1 to B 1 light 999;rate 0 0=9999 to 9999;");
            shell(x, 1);
            for (int round = 0; round < 30; round++) {
                x.fill(1, 0, 0, 100000);
                x.fill(1, 0, 1, 0);
                due("steps(1, 10)", x.steps(1, 10), 10);
            }
            due("light(1, 0, 0)", x.light(1, 0, 0), 2996700300L);
        });
        sentence(21, "THE BOOK. NONE for others.", () -> {
            StarShells x = with(BURNING);
            due("no SHELL", x.light(0, 0, 0), NONE);
            shell(x, 0, 100);
            x.steps(0, 1);
            for (int far : FAR) {
                due("light(" + far + ", 0, 0)", x.light(far, 0, 0), NONE);
                due("light(0, " + far + ", 0)", x.light(0, far, 0), NONE);
                due("light(0, 0, " + far + ")", x.light(0, 0, far), NONE);
            }
            due("light(2, 0, 0)", x.light(2, 0, 0), NONE);
            due("light(1, 0, 0)", x.light(1, 0, 0), NONE);
            due("light(0, 1, 0)", x.light(0, 1, 0), NONE);
            due("light(0, 16, 0)", x.light(0, 16, 0), NONE);
            due("light(0, 0, 5)", x.light(0, 0, 5), NONE);
            due("light(0, 0, 4)", x.light(0, 0, 4), 3);
        });
    }

    private static void sheets() {
        sentence(22, "A SHEET is taken: true", () -> {
            StarShells x = with(BURNING);
            due("a STAR without SHELLS", x.sheet(1), true);
            due("check(0)", x.check(0), 0);
            shell(x, 0, 100);
            x.steps(0, 1);
            due("the SHEET is the other STAR's", x.check(0), 0);
            due("sheet(0)", x.sheet(0), true);
            due("check(0)", x.check(0), 0);
            due("alter", x.alter(0, 0, 7), true);
            due("check(0)", x.check(0), 1);
            due("taken anew", x.sheet(0), true);
            due("check(0)", x.check(0), 0);
            x.steps(0, 1);
            due("THE BOOK goes on, THE SHEET doesn't", x.check(0), 2);
        });
        sentence(22, "False: no such STAR", () -> {
            StarShells x = with(BURNING);
            for (int far : FAR) {
                due("sheet(" + far + ")", x.sheet(far), false);
            }
            due("sheet(2)", x.sheet(2), false);
            due("none was taken", x.check(0), NONE);
            due("none was taken", x.alter(0, 0, 1), false);
            shell(x, 0, 100);
            due("sheet(0)", x.sheet(0), true);
            x.steps(0, 1);
            due("sheet(2)", x.sheet(2), false);
            due("sheet(-1)", x.sheet(-1), false);
            due("THE SHEET ahead stays", x.check(0), 2);
        });
    }

    private static void altering() {
        sentence(23, "A place of THE SHEET is altered (mask not 0): true", () -> {
            StarShells x = with(BURNING);
            shell(x, 0, 100);
            x.steps(0, 1);
            x.sheet(0);
            for (long mask : new long[] {1, -1, Long.MIN_VALUE, Long.MAX_VALUE, 1L << 32}) {
                due("alter by " + mask, x.alter(0, 0, mask), true);
                due("check(0)", x.check(0), 1);
                due("by the same once more", x.alter(0, 0, mask), true);
                due("check(0)", x.check(0), 0);
            }
            due("mask 0", x.alter(0, 0, 0), false);
            due("check(0)", x.check(0), 0);
            // THE SHEET alone is altered; 5 and 15 make 10, which THE BOOK has behind the next STEP.
            due("alter", x.alter(0, 0, 15), true);
            due("light(0, 0, 0)", x.light(0, 0, 0), 5);
            x.steps(0, 1);
            due("check(0)", x.check(0), 1);
            due("check(2)", x.check(2), 4);
        });
        sentence(23, "False for others (SHELL 0 .. 15), or none was taken", () -> {
            StarShells x = with(BURNING);
            due("none was taken", x.alter(0, 0, 1), false);
            due("sheet(0)", x.sheet(0), true);
            for (int far : FAR) {
                due("alter(" + far + ", 0, 1)", x.alter(far, 0, 1), false);
                due("alter(0, " + far + ", 1)", x.alter(0, far, 1), false);
            }
            due("alter(16, 0, 1)", x.alter(16, 0, 1), false);
            due("alter(0, 5, 1)", x.alter(0, 5, 1), false);
            due("alter(15, 5, 1)", x.alter(15, 5, 1), false);
            due("alter(0, 0, 0)", x.alter(0, 0, 0), false);
            due("check(0)", x.check(0), 0);
            due("a SHELL that the STAR hasn't", x.alter(15, 4, 1), true);
            due("check(0)", x.check(0), 1);
            due("check(1)", x.check(1), 15);
            due("check(2)", x.check(2), 4);
            due("alter(0, 0, 1)", x.alter(0, 0, 1), true);
            due("check(0)", x.check(0), 2);
        });
    }

    private static void checking() {
        sentence(24, "CHECKED: 0 how many places are other, 1 the SHELL, 2 the CHAIN of the one (NONE if it isn't one)", () -> {
            StarShells x = with(BURNING);
            x.sheet(1);
            due("none is other", x.check(0), 0);
            due("check(1)", x.check(1), NONE);
            due("check(2)", x.check(2), NONE);
            int count = 0;
            for (int shell = 0; shell < 16; shell++) {
                for (int chain = 0; chain < 5; chain++) {
                    due("alter", x.alter(shell, chain, shell + 1), true);
                    count++;
                    due("check(0)", x.check(0), count);
                }
            }
            due("all 80 are other", x.check(1), NONE);
            due("all 80 are other", x.check(2), NONE);
            int[][] places = {{0, 0}, {0, 4}, {15, 0}, {15, 4}, {7, 3}};
            for (int[] place : places) {
                x.sheet(1);
                x.alter(place[0], place[1], Long.MIN_VALUE);
                due("check(1)", x.check(1), place[0]);
                due("check(2)", x.check(2), place[1]);
                x.alter((place[0] + 1) % 16, place[1], 1);
                due("two are other", x.check(1), NONE);
                due("two are other", x.check(2), NONE);
            }
        });
        sentence(24, "NONE for others, or none was taken", () -> {
            StarShells x = with(BURNING);
            for (int what = -1; what < 4; what++) {
                due("check(" + what + ") ahead of any", x.check(what), NONE);
            }
            x.sheet(0);
            x.alter(3, 2, 1);
            for (int far : FAR) {
                due("check(" + far + ")", x.check(far), NONE);
            }
            due("check(3)", x.check(3), NONE);
            due("check(2)", x.check(2), 2);
        });
    }
}
