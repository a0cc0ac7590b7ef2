/** The edges of promises 25 and 26: how many TONES are BELOW a number, and the BOX of each. */
final class ToneBoundaries extends Sentences {
    static void run() {
        springs();
        counting();
        belowRefused();
        boxes();
        toneRefused();
    }

    /** A STAR 0 by IDENTITY and a UNIT of 1, whose SHELLS have these HEATS, the middle first. */
    private static StarShells heated(int... heats) {
        StarShells x = with(IDENTITY);
        x.rules(0, 1, 1000);
        int above = 0;
        int[] weights = new int[heats.length];
        for (int shell = heats.length - 1; shell >= 0; shell--) {
            weights[shell] = 2 * (heats[shell] - above);
            above += weights[shell];
        }
        for (int shell = 0; shell < heats.length; shell++) {
            shell(x, 0, weights[shell]);
        }
        for (int shell = 0; shell < heats.length; shell++) {
            due("HEAT of " + shell, x.of(0, shell, 3), heats[shell]);
        }
        return x;
    }

    /** SHELLS that all have the HEAT 990. */
    private static StarShells hot(int shells) {
        StarShells x = with("push 989=9999 to 9999,990=0 to 9999;");
        for (int i = 0; i < shells; i++) {
            shell(x, 0, 10);
        }
        due("HEAT", x.of(0, 0, 3), 990);
        return x;
    }

    private static void springs() {
        sentence(25, "K of a SHELL: HEAT / 10, cut", () -> {
            int[][] rows = {{0, 0}, {9, 0}, {10, 1}, {19, 1}, {20, 2}, {989, 98}, {990, 99}, {999, 99}};
            for (int[] row : rows) {
                StarShells x = heated(row[0]);
                due("tone(0, 0) of HEAT " + row[0], x.tone(0, 0), row[1]);
                due("below its K", x.below(0, row[1]), 0);
                due("below one more", x.below(0, row[1] + 1), 1);
            }
        });
        sentence(25, "K of it and of the next one (0 above the rim) together", () -> {
            // K 8 and 3: the rows are 11 and 3, and 3 between: x x - 14 x + 24.
            StarShells x = heated(80, 30);
            due("tone(0, 0)", x.tone(0, 0), 2);
            due("tone(0, 1)", x.tone(0, 1), 12);
            // K 10, 4 and 1: x x x - 20 x x + 72 x - 40, which is -40, 13, 23, -8, -85 and 88 at 0, 1, 3, 4, 15 and 16.
            x = heated(107, 44, 12);
            int[] want = {0, 3, 15};
            for (int k = 0; k < 3; k++) {
                due("tone(0, " + k + ")", x.tone(0, k), want[k]);
            }
        });
    }

    private static void counting() {
        sentence(25, "Its HEAT then is the lowest of its first BOX", () -> {
            // It is SETTLED, though a SHELL has two BOXES: 60 and 140 for NEED 60, K 6 by the first.
            StarShells x = with("push 0=0 to 0,100=100 to 100,200=0 to 0;");
            shell(x, 0, 120);
            x.rules(0, 1, 1000);
            due("settled(0)", x.settled(0), 1);
            due("tone(0, 0)", x.tone(0, 0), 6);
            due("below(0, 6)", x.below(0, 6), 0);
            due("below(0, 7)", x.below(0, 7), 1);
        });
        sentence(25, "How many TONES are BELOW n", () -> {
            StarShells x = heated(80, 30);
            int[][] rows = {{0, 0}, {1, 0}, {2, 0}, {3, 1}, {11, 1}, {12, 1}, {13, 2}, {14, 2}, {399, 2}, {400, 2}};
            for (int[] row : rows) {
                due("below(0, " + row[0] + ")", x.below(0, row[0]), row[1]);
            }
        });
        sentence(25, "BELOW n (0 .. 400): how many TONES are less than n", () -> {
            StarShells x = hot(7);
            int[][] seven = {{4, 0}, {5, 1}, {37, 1}, {38, 2}, {99, 2}, {100, 3}, {177, 3}, {178, 4}, {259, 4}, {260, 5},
                {330, 5}, {331, 6}, {378, 6}, {379, 7}, {396, 7}, {400, 7}};
            for (int[] row : seven) {
                due("below(0, " + row[0] + ") of 7", x.below(0, row[0]), row[1]);
            }
        });
        sentence(25, "(each as often as it is one; all are 0 or above)", () -> {
            StarShells x = with(WIDE);
            for (int shells = 1; shells <= 7; shells++) {
                shell(x, 0, 10);
                due("none is below 0", x.below(0, 0), 0);
                due("all are 0", x.below(0, 1), shells);
                due("below(0, 400)", x.below(0, 400), shells);
            }
            // K 5 below, then 0: 5 and 0, where the table falls apart.
            x = heated(58, 7);
            due("below(0, 0)", x.below(0, 0), 0);
            due("below(0, 1)", x.below(0, 1), 1);
            due("below(0, 5)", x.below(0, 5), 1);
            due("below(0, 6)", x.below(0, 6), 2);
            // By a falling push the rim is the hotter one.
            x = with("push 0=90 to 90,90=0 to 0;");
            shell(x, 0, 80);
            shell(x, 0, 80);
            x.rules(0, 2, 1000);
            due("HEAT", x.of(0, 0, 3), 30);
            due("HEAT", x.of(0, 1, 3), 70);
            // K 3 and 7: 10 and 7, 7 between: x x - 17 x + 21.
            due("below(0, 1)", x.below(0, 1), 0);
            due("below(0, 2)", x.below(0, 2), 1);
            due("below(0, 15)", x.below(0, 15), 1);
            due("below(0, 16)", x.below(0, 16), 2);
            x.fill(0, 0, 0, 20);
            x.fill(0, 1, 0, 170);
            due("HEAT", x.of(0, 0, 3), 0);
            due("HEAT", x.of(0, 1, 3), 48);
            // K 0 and 4: 4 and 4, 4 between: 0 and 8.
            due("below(0, 0)", x.below(0, 0), 0);
            due("below(0, 1)", x.below(0, 1), 1);
            due("below(0, 4)", x.below(0, 4), 1);
            due("below(0, 8)", x.below(0, 8), 1);
            due("below(0, 9)", x.below(0, 9), 2);
        });
    }

    private static void belowRefused() {
        sentence(25, "NONE for others, above 7 SHELLS, and if it isn't SETTLED", () -> {
            StarShells x = heated(80, 30);
            for (int far : FAR) {
                due("below(" + far + ", 0)", x.below(far, 0), NONE);
                due("below(0, " + far + ")", x.below(0, far), NONE);
            }
            due("below(2, 0)", x.below(2, 0), NONE);
            due("below(0, 401)", x.below(0, 401), NONE);
            due("a STAR without SHELLS", x.below(1, 0), NONE);
            x.fill(0, 0, 0, 100000);
            due("not SETTLED", x.below(0, 0), NONE);
            due("not SETTLED", x.below(0, 400), NONE);
            x = hot(7);
            due("7 SHELLS", x.below(0, 400), 7);
            shell(x, 0, 10);
            due("SETTLED", x.settled(0), 2);
            due("8 SHELLS", x.below(0, 400), NONE);
            due("8 SHELLS", x.below(0, 0), NONE);
            for (int shell = 8; shell < 16; shell++) {
                shell(x, 0, 10);
            }
            due("16 SHELLS", x.below(0, 400), NONE);
        });
    }

    private static void boxes() {
        sentence(26, "BOX of the k-th TONE", () -> {
            StarShells x = hot(7);
            int[] want = {4, 37, 99, 177, 259, 330, 378};
            for (int k = 0; k < 7; k++) {
                due("tone(0, " + k + ")", x.tone(0, k), want[k]);
            }
        });
        sentence(26, "the greatest n (0 .. 399) with not more than k BELOW it; that TONE is n or above and less than n + 1", () -> {
            // Whole TONES are in the BOX that they begin: 2 and 12.
            StarShells x = heated(80, 30);
            due("tone(0, 0)", x.tone(0, 0), 2);
            due("tone(0, 1)", x.tone(0, 1), 12);
            // 0, and as often as it is one.
            x = with(WIDE);
            for (int shells = 1; shells <= 7; shells++) {
                shell(x, 0, 10);
                due("the last of " + shells, x.tone(0, shells - 1), 0);
            }
            // Two of K 98: 98 * (3 + root of 5) / 2 is 256.57.
            x = with("push 979=9999 to 9999,980=0 to 9999;");
            shell(x, 0, 10);
            shell(x, 0, 10);
            due("tone(0, 1)", x.tone(0, 1), 256);
            // Each BOX by the counts.
            x = hot(5);
            for (int k = 0; k < 5; k++) {
                int box = x.tone(0, k);
                due("not more than k", x.below(0, box) <= k, true);
                due("one more has", x.below(0, box + 1) > k, true);
            }
        });
    }

    private static void toneRefused() {
        sentence(26, "or it is 400 or above (n is 400 then)", () -> {
            // None can be: by any K of 99 at most, TONES are 4 * 99 at most.
            for (int shells = 1; shells <= 7; shells++) {
                StarShells x = hot(shells);
                due("below(0, 397)", x.below(0, 397), shells);
                due("the last one is less", x.tone(0, shells - 1) < 397, true);
                due("tone(0, " + shells + ")", x.tone(0, shells), NONE);
            }
        });
        sentence(26, "NONE likewise, and without one", () -> {
            StarShells x = heated(80, 30);
            for (int far : FAR) {
                due("tone(" + far + ", 0)", x.tone(far, 0), NONE);
                due("tone(0, " + far + ")", x.tone(0, far), NONE);
            }
            due("tone(2, 0)", x.tone(2, 0), NONE);
            due("a STAR without SHELLS", x.tone(1, 0), NONE);
            due("tone(0, 2)", x.tone(0, 2), NONE);
            due("tone(0, 6)", x.tone(0, 6), NONE);
            x.fill(0, 0, 0, 100000);
            due("not SETTLED", x.tone(0, 0), NONE);
            x = hot(7);
            due("tone(0, 6)", x.tone(0, 6), 378);
            due("tone(0, 7)", x.tone(0, 7), NONE);
            shell(x, 0, 10);
            for (int k = 0; k < 8; k++) {
                due("8 SHELLS", x.tone(0, k), NONE);
            }
        });
    }
}
