/** The edges of promise 18: when a STEP can be, how much burns in it, and what is mixed. */
final class StepBoundaries extends Sentences {
    static void run() {
        counts();
        most();
        settledOnly();
        times();
        fullKinds();
        mixing();
        groups();
    }

    private static void counts() {
        sentence(18, "n STEPS of a STAR (1 .. 50), or as many as can be: how many", () -> {
            StarShells x = with(WIDE + "chain 0 A 1 to B 1 light 1;rate 0 0=1 to 1;");
            shell(x, 0, 1000);
            due("steps(0, 1)", x.steps(0, 1), 1);
            parts(x, 0, 0, 999, 1);
            due("steps(0, 50)", x.steps(0, 50), 50);
            parts(x, 0, 0, 949, 51);
            due("about(4)", x.about(4), 51);
            due("a STAR without SHELLS", x.steps(1, 50), 0);
            shell(x, 1, 10);
            due("steps(1, 50)", x.steps(1, 50), 50);
            parts(x, 1, 0, 0, 10);
            parts(x, 0, 0, 949, 51);
        });
        sentence(18, "NONE for others", () -> {
            StarShells x = with(WIDE + "chain 0 A 1 to B 1 light 1;rate 0 0=1 to 1;");
            shell(x, 0, 100);
            shell(x, 1, 100);
            for (int far : FAR) {
                due("steps(" + far + ", 1)", x.steps(far, 1), NONE);
                due("steps(0, " + far + ")", x.steps(0, far), NONE);
            }
            due("steps(2, 1)", x.steps(2, 1), NONE);
            due("steps(0, 0)", x.steps(0, 0), NONE);
            due("steps(0, 51)", x.steps(0, 51), NONE);
            due("steps(1, 300)", x.steps(1, 300), NONE);
            due("about(4)", x.about(4), 0);
            parts(x, 0, 0, 100, 0);
            parts(x, 1, 0, 100, 0);
        });
    }

    private static void most() {
        sentence(18, "STEPS are numbered from 0 on (300 at most of both STARS)", () -> {
            StarShells x = with(WIDE + "chain 0 A 1 to B 1 light 1;rate 0 0=1 to 1;");
            shell(x, 0, 1);
            shell(x, 1, 100000);
            due("steps(0, 1)", x.steps(0, 1), 1);
            event(x, 0, 0, 0, 0, 0, 0);
            event(x, 1, 0, 0, 0, 0, 1);
            due("steps(1, 1)", x.steps(1, 1), 1);
            event(x, 2, 1, 1, 0, 0, 1);
            for (int i = 0; i < 5; i++) {
                due("steps(1, 50)", x.steps(1, 50), 50);
            }
            due("steps(0, 47)", x.steps(0, 47), 47);
            due("about(4)", x.about(4), 299);
            // The 300th is number 299.
            x.fill(0, 0, 0, 1);
            due("steps(0, 50)", x.steps(0, 50), 1);
            event(x, 3, 299, 0, 0, 0, 0);
            event(x, 4, 299, 0, 0, 0, 1);
            due("about(4)", x.about(4), 300);
            x.fill(0, 0, 0, 7);
            due("steps(0, 1)", x.steps(0, 1), 0);
            due("steps(1, 50)", x.steps(1, 50), 0);
            parts(x, 0, 0, 7, 2);
            parts(x, 1, 0, 99749, 251);
            due("light(1, 0, 0)", x.light(1, 0, 0), 251);
            due("about(4)", x.about(4), 300);
            due("about(5)", x.about(5), 5);
            due("others are refused all the same", x.steps(0, 51), NONE);
            due("back()", x.back(), 0);
            due("about(4)", x.about(4), 0);
        });
    }

    private static void settledOnly() {
        sentence(18, "A STEP of a STAR that is SETTLED (else it can't)", () -> {
            String text = "push 0=10 to 10;chain 0 A 1 to B 1 light 1;rate 0 0=1 to 1;";
            StarShells x = with(text);
            shell(x, 0, 22);
            x.rules(0, 1, 1000);
            due("NEED 11", x.steps(0, 5), 0);
            parts(x, 0, 0, 22, 0);
            due("about(4)", x.about(4), 0);
            due("light(0, 0, 0)", x.light(0, 0, 0), 0);
            x.fill(0, 0, 0, 20);
            due("NEED 10", x.steps(0, 5), 5);
            parts(x, 0, 0, 15, 5);
            // NEEDS 10 and 0: the rim alone has no BOX.
            x.fill(0, 0, 1, 5);
            shell(x, 0, 0);
            due("settled(0)", x.settled(0), 0);
            due("steps(0, 1)", x.steps(0, 1), 0);
            due("look(0)", x.look(0), true);
            due("without LAWS", x.steps(0, 1), 0);
            due("about(4)", x.about(4), 5);
        });
        sentence(18, "or as many as can be", () -> {
            // NEEDS 35 and 15 are borne, but once the parts are mixed, they are 30 and 10.
            StarShells x = with("push 0=0 to 0,1=15 to 15,3=25 to 35;chain 0 A 1 to B 1 light 1;rate 0 0=1 to 1;"
                + "haze 0=9999 to 9999;");
            shell(x, 0, 10);
            shell(x, 0, 30);
            x.rules(0, 1, 0);
            due("NEED", x.of(0, 0, 1), 35);
            due("NEED", x.of(0, 1, 1), 15);
            due("steps(0, 5)", x.steps(0, 5), 1);
            due("NEED", x.of(0, 0, 1), 30);
            due("NEED", x.of(0, 1, 1), 10);
            due("steps(0, 5)", x.steps(0, 5), 0);
            due("about(4)", x.about(4), 1);
        });
    }

    private static void times() {
        sentence(18, "TIMES (by the rate's LOW at its HEAT, and the parts there are by then)", () -> {
            // HEAT 10 of the BOX 10 .. 20.
            StarShells x = with("push 9=0 to 0,10=5 to 5,20=5 to 5,21=0 to 0;chain 0 A 1 to B 1 light 1;"
                + "rate 0 9=9 to 9,10=3 to 8,11=1 to 9;");
            shell(x, 0, 10);
            x.rules(0, 1, 1000);
            due("steps(0, 1)", x.steps(0, 1), 1);
            parts(x, 0, 0, 7, 3);
            due("steps(0, 1)", x.steps(0, 1), 1);
            parts(x, 0, 0, 4, 6);
            due("steps(0, 2)", x.steps(0, 2), 2);
            parts(x, 0, 0, 0, 10);
            due("light(0, 0, 0)", x.light(0, 0, 0), 10);
            // Fewer parts than the first number, as many, and more.
            int[][] rows = {{0, 0}, {1, 0}, {2, 0}, {3, 1}, {4, 1}, {5, 1}, {6, 2}, {30000, 9999}, {29996, 9998}};
            for (int[] row : rows) {
                x = with(WIDE + "kind B 3;chain 2 A 3 to B 1 light 5;rate 2 0=9999 to 9999;");
                shell(x, 1, row[0]);
                due("steps(1, 1)", x.steps(1, 1), 1);
                parts(x, 1, 0, row[0] - 3 * row[1], row[1]);
                due("light(1, 0, 2)", x.light(1, 0, 2), 5L * row[1]);
            }
            // CHAIN by CHAIN: what the one leaves or makes is there for the next, and not for the one ahead.
            x = with(WIDE + "chain 0 C 1 to D 1 light 1;chain 1 A 1 to B 1 light 1;chain 2 A 1 to C 1 light 1;"
                + "chain 3 C 1 to E 1 light 1;rate 0 0=9 to 9;rate 1 0=6 to 6;rate 2 0=9 to 9;rate 3 0=2 to 2;");
            shell(x, 0, 10);
            due("steps(0, 1)", x.steps(0, 1), 1);
            parts(x, 0, 0, 0, 6, 2, 0, 2, 0);
            due("steps(0, 1)", x.steps(0, 1), 1);
            parts(x, 0, 0, 0, 6, 0, 2, 2, 0);
        });
        sentence(18, "all by HEATS as they are ahead of it", () -> {
            // By the LAWS of another LOOK the HEAT, and so the rate, is another one.
            StarShells x = with("push 0=0 to 0,999=999 to 999;chain 0 A 1 to B 1 light 1;rate 0 0=0 to 0,100=100 to 100;",
                "push 0=0 to 0,10=100 to 100;");
            shell(x, 0, 100);
            x.rules(0, 1, 1000);
            x.look(1);
            due("HEAT", x.of(0, 0, 3), 50);
            due("steps(0, 1)", x.steps(0, 1), 1);
            parts(x, 0, 0, 50, 50);
            x.look(2);
            due("HEAT", x.of(0, 0, 3), 5);
            due("steps(0, 1)", x.steps(0, 1), 1);
            parts(x, 0, 0, 45, 55);
        });
    }

    private static void fullKinds() {
        sentence(18, "(100000 at most: TIMES are fewer, if the second KIND would be above that)", () -> {
            int[][] rows = {{99990, 3}, {99991, 3}, {99994, 2}, {99997, 1}, {99998, 0}, {99999, 0}, {100000, 0},
                {99985, 5}, {99984, 5}, {0, 5}};
            for (int[] row : rows) {
                StarShells x = with(WIDE + "kind A 3;chain 0 A 1 to B 3 light 2;rate 0 0=5 to 5;");
                shell(x, 0, 40, row[0]);
                due("THROUGH doesn't ask", x.through(0, 0, false), 10);
                due("steps(0, 1)", x.steps(0, 1), 1);
                parts(x, 0, 0, 40 - row[1], row[0] + 3 * row[1]);
                due("light(0, 0, 0)", x.light(0, 0, 0), 2 * row[1]);
                due("LIT", x.about(5), row[1] > 0 ? 1 : 0);
            }
            // What a CHAIN takes away makes room for the next one.
            StarShells x = with(WIDE + "chain 0 A 1 to B 1 light 1;chain 1 B 1 to C 1 light 1;chain 2 A 1 to B 1 light 1;"
                + "rate 0 0=4 to 4;rate 1 0=4 to 4;rate 2 0=9 to 9;");
            shell(x, 0, 100, 100000);
            due("steps(0, 1)", x.steps(0, 1), 1);
            parts(x, 0, 0, 96, 100000, 4);
            due("light(0, 0, 0)", x.light(0, 0, 0), 0);
            due("light(0, 0, 2)", x.light(0, 0, 2), 4);
        });
    }

    private static final String BRIGHT = WIDE + "haze 0=1000 to 1000;chain 0 A 1 to B 1 light 10;rate 0 0=1 to 1;";

    private static void mixing() {
        sentence(18, "each has as many, the lowest ones one more each of what is left over", () -> {
            // The middle is lit, so all are CHURNED: C in all of the SHELLS.
            for (int shells = 1; shells <= 16; shells++) {
                StarShells x = with(BRIGHT);
                shell(x, 0, 1);
                for (int shell = 1; shell < shells; shell++) {
                    shell(x, 0);
                }
                x.fill(0, shells - 1, 2, 37);
                x.rules(0, 100, 9);
                due("steps(0, 1)", x.steps(0, 1), 1);
                for (int shell = 0; shell < shells; shell++) {
                    int more = shell < 37 % shells ? 1 : 0;
                    parts(x, 0, shell, 0, shell == 0 ? 1 : 0, 37 / shells + more);
                }
            }
            // Nothing left over, all full, and one part alone.
            StarShells x = with(BRIGHT);
            shell(x, 0, 1, 0, 100000, 0, 99999, 0);
            shell(x, 0, 0, 0, 100000, 0, 100000, 1);
            x.rules(0, 100000, 0);
            due("steps(0, 1)", x.steps(0, 1), 1);
            parts(x, 0, 0, 0, 1, 100000, 0, 100000, 1);
            parts(x, 0, 1, 0, 0, 100000, 0, 99999, 0);
        });
        sentence(18, "Of SHELLS that were CHURNED ahead of the STEP", () -> {
            // All that burns is gone behind the STEP, which was CHURNED ahead of it.
            StarShells x = with(BRIGHT);
            shell(x, 0, 1, 0, 8);
            shell(x, 0);
            x.rules(0, 100, 9);
            due("CHURNED", x.of(0, 1, 5), 1);
            due("steps(0, 1)", x.steps(0, 1), 1);
            due("CALM behind it", x.of(0, 1, 5), 0);
            parts(x, 0, 0, 0, 1, 4);
            parts(x, 0, 1, 0, 0, 4);
            x.fill(0, 0, 2, 8);
            due("steps(0, 1)", x.steps(0, 1), 1);
            parts(x, 0, 0, 0, 1, 8);
            parts(x, 0, 1, 0, 0, 4);
            // CALM ahead of it, as its fuel is made in the STEP.
            x = with(WIDE + "haze 0=1000 to 1000;chain 0 A 1 to B 1 light 0;chain 1 B 1 to C 1 light 5;"
                + "rate 0 0=2 to 2;rate 1 0=1 to 1;");
            shell(x, 0, 2, 0, 9);
            shell(x, 0);
            x.rules(0, 100, 4);
            due("CALM", x.of(0, 0, 5), 0);
            due("steps(0, 1)", x.steps(0, 1), 1);
            parts(x, 0, 0, 0, 1, 10);
            parts(x, 0, 1, 0, 0, 0);
            due("CHURNED behind it", x.of(0, 0, 5), 1);
            due("steps(0, 1)", x.steps(0, 1), 1);
            parts(x, 0, 0, 0, 0, 6);
            parts(x, 0, 1, 0, 0, 5);
            // OPEN ones, by LIMIT alone.
            x = with(WIDE + "haze 0=1000 to 2000;chain 0 A 1 to B 1 light 10;rate 0 0=1 to 1;");
            shell(x, 0, 2, 0, 8);
            shell(x, 0);
            x.rules(0, 100, 10);
            due("OPEN", x.of(0, 0, 5), 2);
            due("steps(0, 1)", x.steps(0, 1), 1);
            parts(x, 0, 0, 1, 1, 8);
            x.rules(0, 100, 20);
            due("CALM", x.of(0, 0, 5), 0);
            x.fill(0, 0, 0, 2);
            due("steps(0, 1)", x.steps(0, 1), 1);
            parts(x, 0, 0, 1, 2, 8);
            x.rules(0, 100, 9);
            due("CHURNED", x.of(0, 0, 5), 1);
            due("steps(0, 1)", x.steps(0, 1), 1);
            parts(x, 0, 0, 0, 2, 4);
            parts(x, 0, 1, 0, 1, 4);
        });
    }

    private static void groups() {
        sentence(18, "one beside the other, each KIND's parts are mixed", () -> {
            // The middle makes no light and is CALM: it isn't mixed with the two above.
            StarShells y = with(BRIGHT);
            shell(y, 0, 0, 0, 7);
            shell(y, 0, 5);
            shell(y, 0, 1, 0, 3);
            y.rules(0, 100, 9);
            int[] calm = {0, 1, 1};
            for (int shell = 0; shell < 3; shell++) {
                due("of(0, " + shell + ", 5)", y.of(0, shell, 5), calm[shell]);
            }
            due("steps(0, 1)", y.steps(0, 1), 1);
            parts(y, 0, 0, 0, 0, 7);
            parts(y, 0, 1, 2, 1, 2);
            parts(y, 0, 2, 2, 1, 1);
            // HEATS 145, 115, 85, 55, 25 and 5: by haze 0, 2 and 3, 5 alone of them are CHURNED.
            StarShells x = with(IDENTITY + "chain 0 F 1 to E 1 light 10;rate 0 0=1 to 1;",
                "haze 20=9999 to 9999,30=0 to 0,40=9999 to 9999,90=9999 to 9999,91=0 to 0,120=0 to 0,121=9999 to 9999;");
            int[] weights = {30, 30, 30, 30, 30, 10};
            for (int weight : weights) {
                shell(x, 0, weight);
            }
            x.rules(0, 1, 80);
            x.fill(0, 0, 5, 2);
            x.fill(0, 0, 0, 28);
            int[] heats = {145, 115, 85, 55, 25, 5};
            int[] moods = {1, 0, 1, 1, 0, 1};
            for (int shell = 0; shell < 6; shell++) {
                due("HEAT", x.of(0, shell, 3), heats[shell]);
                due("of(0, " + shell + ", 5)", x.of(0, shell, 5), moods[shell]);
            }
            // Only the two beside one another share; their WEIGHTS stay as they were.
            x.fill(0, 2, 0, 13);
            x.fill(0, 2, 3, 17);
            x.fill(0, 3, 0, 10);
            x.fill(0, 3, 1, 20);
            due("steps(0, 1)", x.steps(0, 1), 1);
            parts(x, 0, 0, 28, 0, 0, 0, 1, 1);
            parts(x, 0, 1, 30, 0, 0, 0, 0, 0);
            parts(x, 0, 2, 12, 10, 0, 9, 0, 0);
            parts(x, 0, 3, 11, 10, 0, 8, 0, 0);
            parts(x, 0, 4, 30, 0, 0, 0, 0, 0);
            parts(x, 0, 5, 10, 0, 0, 0, 0, 0);
        });
    }
}
