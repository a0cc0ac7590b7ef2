/** The edges of promise 19: what is BURNT OUT, what is LIT, and how many EVENTS are kept. */
final class EventBoundaries extends Sentences {
    static void run() {
        burntOut();
        lit();
        order();
        kept();
        asked();
    }

    private static void burntOut() {
        sentence(19, "BURNT OUT: of its first KIND there are fewer parts than its number, and weren't ahead of the STEP", () -> {
            // A CHAIN without light is never LIT, so all EVENTS are of this sort. {parts ahead, is it BURNT OUT}
            int[][] rows = {{0, 0}, {1, 0}, {2, 0}, {3, 1}, {4, 1}, {5, 1}, {6, 0}, {8, 0}};
            for (int[] row : rows) {
                StarShells x = with(WIDE + "chain 1 A 3 to B 3 light 0;rate 1 0=1 to 1;");
                shell(x, 0, row[0]);
                due("steps(0, 1)", x.steps(0, 1), 1);
                due("EVENTS for " + row[0], x.about(5), row[1]);
                if (row[1] == 1) {
                    event(x, 0, 0, 0, 0, 1, 0);
                }
                due("steps(0, 5)", x.steps(0, 5), 5);
                due("once alone", x.about(5), row[0] < 3 ? 0 : 1);
            }
            // It may be so again, if parts came in between.
            StarShells x = with(WIDE + "chain 1 A 3 to B 3 light 0;rate 1 0=1 to 1;");
            shell(x, 1, 3);
            due("steps(1, 2)", x.steps(1, 2), 2);
            x.fill(1, 0, 0, 5);
            due("steps(1, 2)", x.steps(1, 2), 2);
            due("about(5)", x.about(5), 2);
            event(x, 0, 0, 1, 0, 1, 0);
            event(x, 1, 2, 1, 0, 1, 0);
        });
        sentence(19, "Behind a SHELL's CHAINS, CHAIN by CHAIN", () -> {
            // What another CHAIN makes in the same STEP counts: there are parts again.
            StarShells x = with(WIDE + "chain 0 A 1 to B 1 light 0;chain 1 B 1 to A 1 light 0;rate 0 0=1 to 1;rate 1 0=1 to 1;");
            shell(x, 0, 1, 1);
            due("steps(0, 3)", x.steps(0, 3), 3);
            parts(x, 0, 0, 1, 1);
            due("about(5)", x.about(5), 0);
            // And what another one takes: CHAIN 0 doesn't burn itself, but has too few parts then.
            x = with(WIDE + "chain 0 A 9 to B 9 light 0;chain 4 A 1 to C 1 light 0;rate 4 0=2 to 2;");
            shell(x, 0, 10);
            due("steps(0, 1)", x.steps(0, 1), 1);
            due("about(5)", x.about(5), 1);
            event(x, 0, 0, 0, 0, 0, 0);
            // Mixing comes later: the fuel that it brings doesn't take the EVENT back.
            x = with(WIDE + "haze 0=9999 to 9999;chain 0 A 1 to B 1 light 1;rate 0 0=1 to 1;");
            shell(x, 0, 1);
            shell(x, 0, 9);
            x.rules(0, 100, 0);
            due("steps(0, 1)", x.steps(0, 1), 1);
            parts(x, 0, 0, 4);
            event(x, 0, 0, 0, 0, 0, 0);
            event(x, 1, 0, 0, 0, 0, 1);
            event(x, 2, 0, 0, 1, 0, 1);
            event(x, 3);
        });
    }

    private static void lit() {
        sentence(19, "LIT: it made some light there, and didn't in that STAR's STEP ahead (or there was none)", () -> {
            StarShells x = with(WIDE + "chain 0 A 1 to B 1 light 1;rate 0 0=1 to 1;", "rate 0 0=0 to 0;",
                "rate 0 0=1 to 1;chain 0 A 1 to B 1 light 0;");
            x.look(1);
            shell(x, 0, 500);
            shell(x, 1, 500);
            due("steps(0, 3)", x.steps(0, 3), 3);
            due("once alone", x.about(5), 1);
            event(x, 0, 0, 0, 0, 0, 1);
            due("steps(1, 1)", x.steps(1, 1), 1);
            event(x, 1, 3, 1, 0, 0, 1);
            // STEPS of the other STAR don't count.
            due("steps(0, 1)", x.steps(0, 1), 1);
            due("about(5)", x.about(5), 2);
            x.look(2);
            due("a STEP without TIMES", x.steps(0, 1), 1);
            x.look(1);
            due("steps(1, 1)", x.steps(1, 1), 1);
            due("about(5)", x.about(5), 2);
            due("steps(0, 1)", x.steps(0, 1), 1);
            event(x, 2, 7, 0, 0, 0, 1);
            x.look(3);
            due("a STEP of TIMES without light", x.steps(0, 1), 1);
            parts(x, 0, 0, 494, 6);
            due("about(5)", x.about(5), 3);
            x.look(1);
            due("steps(0, 1)", x.steps(0, 1), 1);
            event(x, 3, 9, 0, 0, 0, 1);
            // A SHELL that came later has its own.
            shell(x, 0, 5);
            due("steps(0, 1)", x.steps(0, 1), 1);
            event(x, 4, 10, 0, 1, 0, 1);
            event(x, 5);
            // A CHAIN that isn't told in a STEP makes no light in it, and so may be LIT behind it.
            StarShells y = with(WIDE, "chain 0 A 1 to B 1 light 1;rate 0 0=1 to 1;");
            shell(y, 0, 50);
            due("steps(0, 1)", y.steps(0, 1), 1);
            due("look(1)", y.look(1), true);
            due("steps(0, 1)", y.steps(0, 1), 1);
            parts(y, 0, 0, 49, 1);
            due("about(5)", y.about(5), 1);
            due("look(2)", y.look(2), true);
            due("steps(0, 1)", y.steps(0, 1), 1);
            event(y, 1, 2, 0, 0, 0, 1);
            event(y, 2);
            // STEPS that couldn't be aren't ahead.
            x.look(0);
            due("steps(0, 1)", x.steps(0, 1), 0);
            x.look(1);
            due("steps(0, 1)", x.steps(0, 1), 1);
            event(x, 5);
        });
    }

    private static void order() {
        sentence(19, "EVENTS (200 kept): STEP, STAR, SHELL, CHAIN, 0 BURNT OUT or 1 LIT, as they come", () -> {
            StarShells x = with(WIDE + "chain 1 A 1 to B 1 light 1;chain 3 C 1 to D 1 light 1;rate 1 0=1 to 1;rate 3 0=1 to 1;");
            shell(x, 1, 1, 0, 1);
            shell(x, 1, 2, 0, 1);
            due("steps(1, 2)", x.steps(1, 2), 2);
            int[][] rows = {{0, 1, 0, 1, 0}, {0, 1, 0, 1, 1}, {0, 1, 0, 3, 0}, {0, 1, 0, 3, 1}, {0, 1, 1, 1, 1},
                {0, 1, 1, 3, 0}, {0, 1, 1, 3, 1}, {1, 1, 1, 1, 0}};
            for (int i = 0; i < rows.length; i++) {
                event(x, i, rows[i]);
            }
            event(x, rows.length);
            due("about(5)", x.about(5), rows.length);
        });
    }

    private static void kept() {
        sentence(19, "EVENTS (200 kept)", () -> {
            StarShells x = with(WIDE + "chain 0 A 1 to B 1 light 1;chain 1 B 1 to C 1 light 1;chain 2 C 1 to D 1 light 1;"
                + "chain 3 D 1 to E 1 light 1;chain 4 E 1 to F 1 light 1;rate 0 0=1 to 1;rate 1 0=1 to 1;"
                + "rate 2 0=1 to 1;rate 3 0=1 to 1;rate 4 0=1 to 1;",
                "rate 0 0=0 to 0;rate 1 0=0 to 0;rate 2 0=0 to 0;rate 3 0=0 to 0;rate 4 0=0 to 0;");
            for (int shell = 0; shell < 16; shell++) {
                shell(x, 0, 9, 9, 9, 9, 9);
            }
            x.rules(0, 100000, 1000000);
            // 80 are LIT in each STEP with a rate: the first 200 are kept, in the midst of the third one.
            for (int round = 0; round < 4; round++) {
                x.look(1);
                due("steps(0, 1)", x.steps(0, 1), 1);
                due("about(5)", x.about(5), Math.min(200, 80 * (round + 1)));
                x.look(2);
                due("steps(0, 1)", x.steps(0, 1), 1);
            }
            event(x, 0, 0, 0, 0, 0, 1);
            event(x, 79, 0, 0, 15, 4, 1);
            event(x, 80, 2, 0, 0, 0, 1);
            event(x, 198, 4, 0, 7, 3, 1);
            event(x, 199, 4, 0, 7, 4, 1);
            event(x, 200);
            event(x, 319);
            // STEPS go on, light is booked.
            due("about(4)", x.about(4), 8);
            due("light(0, 15, 4)", x.light(0, 15, 4), 4);
        });
    }

    private static void asked() {
        sentence(19, "Of the i-th EVENT: 0 STEP, 1 STAR, 2 SHELL, 3 CHAIN, 4 which", () -> {
            StarShells x = with(WIDE + "chain 4 F 1 to A 1 light 1;rate 4 0=1 to 1;");
            shell(x, 1);
            due("steps(1, 2)", x.steps(1, 2), 2);
            for (int shell = 1; shell < 16; shell++) {
                shell(x, 1);
            }
            x.fill(1, 15, 5, 2);
            due("steps(1, 2)", x.steps(1, 2), 2);
            event(x, 0, 2, 1, 15, 4, 1);
            event(x, 1, 3, 1, 15, 4, 0);
        });
        sentence(19, "NONE if there is none such, and for others", () -> {
            StarShells x = with(WIDE + "chain 4 F 1 to A 1 light 1;rate 4 0=1 to 1;");
            event(x, 0);
            shell(x, 1, 0, 0, 0, 0, 0, 9);
            due("steps(1, 1)", x.steps(1, 1), 1);
            event(x, 0, 0, 1, 0, 4, 1);
            event(x, 1);
            for (int far : FAR) {
                event(x, far);
                due("event(0, " + far + ")", x.event(0, far), NONE);
            }
            due("event(0, 5)", x.event(0, 5), NONE);
            // Numbers of a row that lie side by side aren't those of another EVENT.
            due("event(1, -1)", x.event(1, -1), NONE);
            due("event(199, 0)", x.event(199, 0), NONE);
            due("back()", x.back(), 0);
            event(x, 0);
        });
    }
}
