/** The edges of promises 10 to 15 and 17: SHELLS, their parts, NEED, BOXES, and what is SETTLED. */
final class ShellBoundaries extends Sentences {
    static void run() {
        coming();
        filling();
        asking();
        rules();
        weights();
        needs();
        heats();
        boxes();
        others();
        settled();
    }

    /** One SHELL of STAR 0 with a NEED, by a UNIT of 1. */
    private static StarShells needing(int need, String text) {
        StarShells x = with(text);
        shell(x, 0, 2 * need);
        x.rules(0, 1, 1000);
        due("NEED", x.of(0, 0, 1), need);
        return x;
    }

    private static void coming() {
        sentence(10, "A SHELL comes on a STAR's rim, without parts: its number", () -> {
            StarShells x = new StarShells();
            for (int shell = 0; shell < 16; shell++) {
                due("shell(1)", x.shell(1), shell);
                parts(x, 1, shell, 0, 0, 0, 0, 0, 0);
                due("light", x.light(1, shell, 0), 0);
                due("fill", x.fill(1, shell, shell % 6, shell), true);
                due("about(3)", x.about(3), shell + 1);
                due("about(2)", x.about(2), 0);
            }
            for (int shell = 0; shell < 16; shell++) {
                due("those below stay as they are", x.parts(1, shell, shell % 6), shell);
            }
        });
        sentence(10, "NONE for others, or if there are 16", () -> {
            StarShells x = new StarShells();
            for (int star : FAR) {
                due("shell(" + star + ")", x.shell(star), NONE);
            }
            due("shell(2)", x.shell(2), NONE);
            due("about(2)", x.about(2), 0);
            due("about(3)", x.about(3), 0);
            for (int shell = 0; shell < 16; shell++) {
                shell(x, 0, 7);
            }
            due("the 17th", x.shell(0), NONE);
            due("the 17th once more", x.shell(0), NONE);
            due("about(2)", x.about(2), 16);
            due("the rim stays", x.parts(0, 15, 0), 7);
            due("the other STAR has room", x.shell(1), 0);
        });
        sentence(10, "SHELLS 0 (the middle) .. n - 1 (the rim), 16 at most", () -> {
            StarShells x = new StarShells();
            shell(x, 0, 10);
            shell(x, 0, 20);
            x.rules(0, 1, 0);
            due("the middle bears what is above", x.of(0, 0, 1), 25);
            due("the rim bears half its own alone", x.of(0, 1, 1), 10);
            shell(x, 0, 40);
            due("the rim is another one", x.of(0, 1, 1), 50);
            due("the rim", x.of(0, 2, 1), 20);
        });
    }

    private static void filling() {
        sentence(11, "A SHELL's parts of a KIND: true", () -> {
            StarShells x = new StarShells();
            shell(x, 0);
            due("fill", x.fill(0, 0, 0, 100000), true);
            due("fill", x.fill(0, 0, 5, 100000), true);
            parts(x, 0, 0, 100000, 0, 0, 0, 0, 100000);
            due("in place of those there were", x.fill(0, 0, 0, 1), true);
            due("fill", x.fill(0, 0, 5, 0), true);
            parts(x, 0, 0, 1, 0, 0, 0, 0, 0);
        });
        sentence(11, "of each KIND 0 .. 100000 parts", () -> {
            StarShells x = new StarShells();
            shell(x, 0, 5);
            for (int far : FAR) {
                due("fill(.., " + far + ")", x.fill(0, 0, 0, far), false);
            }
            due("fill(.., 100001)", x.fill(0, 0, 0, 100001), false);
            parts(x, 0, 0, 5);
            due("fill(.., 100000)", x.fill(0, 0, 0, 100000), true);
            due("fill(.., 0)", x.fill(0, 0, 0, 0), true);
        });
        sentence(11, "False for others", () -> {
            StarShells x = new StarShells();
            due("no SHELL", x.fill(0, 0, 0, 1), false);
            shell(x, 0, 1, 2, 3, 4, 5, 6);
            for (int far : FAR) {
                due("fill(" + far + ", ..)", x.fill(far, 0, 0, 9), false);
                due("fill(0, " + far + ", ..)", x.fill(0, far, 0, 9), false);
                due("fill(0, 0, " + far + ", ..)", x.fill(0, 0, far, 9), false);
            }
            due("fill(2, ..)", x.fill(2, 0, 0, 9), false);
            due("fill(1, 0, ..)", x.fill(1, 0, 0, 9), false);
            due("fill(0, 1, ..)", x.fill(0, 1, 0, 9), false);
            due("fill(0, 15, ..)", x.fill(0, 15, 0, 9), false);
            due("fill(0, 16, ..)", x.fill(0, 16, 0, 9), false);
            due("fill(0, 0, 6, ..)", x.fill(0, 0, 6, 9), false);
            parts(x, 0, 0, 1, 2, 3, 4, 5, 6);
            shell(x, 0);
            parts(x, 0, 1, 0, 0, 0, 0, 0, 0);
        });
    }

    private static void asking() {
        sentence(12, "Its parts of a KIND", () -> {
            StarShells x = new StarShells();
            for (int shell = 0; shell < 16; shell++) {
                shell(x, 0, shell, 0, 0, 0, 0, 100000 - shell);
            }
            for (int shell = 0; shell < 16; shell++) {
                parts(x, 0, shell, shell, 0, 0, 0, 0, 100000 - shell);
            }
        });
        sentence(12, "NONE for others", () -> {
            StarShells x = new StarShells();
            due("no SHELL", x.parts(0, 0, 0), NONE);
            shell(x, 0, 1, 2, 3, 4, 5, 6);
            for (int far : FAR) {
                due("parts(" + far + ", 0, 0)", x.parts(far, 0, 0), NONE);
                due("parts(0, " + far + ", 0)", x.parts(0, far, 0), NONE);
                due("parts(0, 0, " + far + ")", x.parts(0, 0, far), NONE);
            }
            due("parts(2, 0, 0)", x.parts(2, 0, 0), NONE);
            due("parts(1, 0, 0)", x.parts(1, 0, 0), NONE);
            due("parts(0, 1, 0)", x.parts(0, 1, 0), NONE);
            due("parts(0, 16, 0)", x.parts(0, 16, 0), NONE);
            due("parts(0, 0, 6)", x.parts(0, 0, 6), NONE);
        });
    }

    private static void areRules(StarShells x, int unit, int limit, int otherUnit, int otherLimit) {
        due("about(10)", x.about(10), unit);
        due("about(20)", x.about(20), limit);
        due("about(11)", x.about(11), otherUnit);
        due("about(21)", x.about(21), otherLimit);
    }

    private static void rules() {
        sentence(13, "UNIT, LIMIT of a STAR: true", () -> {
            StarShells x = new StarShells();
            due("a STAR without SHELLS", x.rules(0, 1, 0), true);
            areRules(x, 1, 0, 100, 1000);
            due("rules", x.rules(1, 100000, 1000000), true);
            areRules(x, 1, 0, 100000, 1000000);
            due("rules", x.rules(0, 100000, 1000000), true);
            due("rules", x.rules(1, 1, 0), true);
            areRules(x, 100000, 1000000, 1, 0);
        });
        sentence(13, "False, changing nothing, for others", () -> {
            StarShells x = new StarShells();
            x.rules(0, 5, 6);
            x.rules(1, 7, 8);
            for (int far : FAR) {
                due("rules(" + far + ", ..)", x.rules(far, 9, 9), false);
                due("rules(0, " + far + ", 9)", x.rules(0, far, 9), false);
                due("rules(1, 9, " + far + ")", x.rules(1, 9, far), false);
            }
            due("rules(2, ..)", x.rules(2, 9, 9), false);
            due("rules(0, 0, 9)", x.rules(0, 0, 9), false);
            due("rules(0, 100001, 9)", x.rules(0, 100001, 9), false);
            due("rules(1, 9, 1000001)", x.rules(1, 9, 1000001), false);
            due("both", x.rules(1, 0, 1000001), false);
            areRules(x, 5, 6, 7, 8);
        });
    }

    private static void weights() {
        sentence(14, "WEIGHT of a SHELL: of all its parts", () -> {
            StarShells x = with("kind A 1;kind B 2;kind C 3;kind D 4;kind E 5;kind F 99;");
            shell(x, 0);
            due("an empty SHELL", x.of(0, 0, 0), 0);
            int[] weights = {1, 2, 3, 4, 5, 99};
            for (int kind = 0; kind < 6; kind++) {
                x.fill(0, 0, kind, 7);
                due("of KIND " + kind, x.of(0, 0, 0), 7 * weights[kind]);
                x.fill(0, 0, kind, 0);
            }
            shell(x, 0, 1, 1, 1, 1, 1, 1);
            due("of all", x.of(0, 1, 0), 114);
            due("look(0)", x.look(0), true);
            due("of all by other LAWS", x.of(0, 1, 0), 6);
            x = with("kind A 99;kind B 99;kind C 99;kind D 99;kind E 99;kind F 99;");
            shell(x, 0, 100000, 100000, 100000, 100000, 100000, 100000);
            due("the most", x.of(0, 0, 0), 59400000);
        });
    }

    private static void needs() {
        sentence(14, "(the WEIGHTS of all SHELLS above it, and half its own, cut) / UNIT", () -> {
            StarShells x = new StarShells();
            shell(x, 0, 0);
            x.rules(0, 1, 0);
            int[][] halves = {{0, 0}, {1, 0}, {2, 1}, {3, 1}, {4, 2}, {99999, 49999}, {100000, 50000}};
            for (int[] row : halves) {
                x.fill(0, 0, 0, row[0]);
                due("half of " + row[0], x.of(0, 0, 1), row[1]);
            }
            x.fill(0, 0, 0, 3);
            shell(x, 0, 1);
            shell(x, 0, 5);
            due("of the middle", x.of(0, 0, 1), 7);
            due("between", x.of(0, 1, 1), 5);
            due("of the rim", x.of(0, 2, 1), 2);
            x = with("kind A 99;kind B 99;kind C 99;kind D 99;kind E 99;kind F 99;");
            for (int shell = 0; shell < 16; shell++) {
                shell(x, 0, 100000, 100000, 100000, 100000, 100000, 100000);
            }
            x.rules(0, 1, 0);
            due("the most", x.of(0, 0, 1), 59400000 * 15 + 29700000);
            due("the rim", x.of(0, 15, 1), 29700000);
            x.rules(0, 100000, 0);
            due("the most by the greatest UNIT", x.of(0, 0, 1), 9207);
        });
        sentence(14, "/ UNIT (1 .. 100000 of a STAR; at first 100), cut", () -> {
            StarShells x = new StarShells();
            shell(x, 0, 0);
            x.rules(0, 10, 0);
            int[][] cuts = {{18, 0}, {19, 0}, {20, 1}, {39, 1}, {40, 2}};
            for (int[] row : cuts) {
                x.fill(0, 0, 0, row[0]);
                due("half of " + row[0] + " by 10", x.of(0, 0, 1), row[1]);
            }
            shell(x, 0, 99979);
            x.rules(0, 100000, 0);
            due("99999 by 100000", x.of(0, 0, 1), 0);
            x.fill(0, 1, 0, 99980);
            due("100000 by 100000", x.of(0, 0, 1), 1);
        });
    }

    private static void heats() {
        sentence(14, "A HEAT (0 .. 999) CAN BE, if NEED is in push's SPAN at it", () -> {
            int[][] around = {{49, 0}, {50, 1}, {51, 1}, {59, 1}, {60, 1}, {61, 0}};
            for (int[] row : around) {
                StarShells x = needing(row[0], "push 100=50 to 60;");
                due("BOXES", x.of(0, 0, 2), row[1]);
                due("HEAT", x.of(0, 0, 3), row[1] == 1 ? 0 : NONE);
                due("the greatest", x.of(0, 0, 4), row[1] == 1 ? 999 : NONE);
            }
            StarShells x = needing(5, "push 0=5 to 5,1=9 to 9;");
            due("HEAT 0 alone", x.of(0, 0, 3), 0);
            due("HEAT 0 alone", x.of(0, 0, 4), 0);
            x = needing(5, "push 998=9 to 9,999=5 to 5;");
            due("HEAT 999 alone", x.of(0, 0, 3), 999);
            due("HEAT 999 alone", x.of(0, 0, 4), 999);
            // LOW is cut down and HIGH rounded up, so a NEED may lie between the lines' ends.
            x = needing(3, "push 0=0 to 0,10=7 to 7;");
            due("from 2.1 on", x.of(0, 0, 3), 3);
            due("up to 3.5", x.of(0, 0, 4), 5);
            x = needing(7, "push 0=0 to 0,10=7 to 7;");
            due("from 6.3 on", x.of(0, 0, 3), 9);
            due("behind the last POINT", x.of(0, 0, 4), 999);
            x = needing(0, "push 0=0 to 0,10=7 to 7;");
            due("ahead of 1.4", x.of(0, 0, 4), 1);
            // Lines that rise or fall by one alone.
            int[][] ones = {{0, 0, 9}, {1, 1, 999}};
            for (int[] row : ones) {
                x = needing(row[0], "push 0=0 to 0,10=1 to 1;");
                due("rising: the lowest for " + row[0], x.of(0, 0, 3), row[1]);
                due("rising: the greatest for " + row[0], x.of(0, 0, 4), row[2]);
                x = needing(1 - row[0], "push 0=1 to 1,10=0 to 0;");
                due("falling: the lowest for " + (1 - row[0]), x.of(0, 0, 3), row[1]);
                due("falling: the greatest for " + (1 - row[0]), x.of(0, 0, 4), row[2]);
            }
            x = needing(9999, WIDE);
            due("9999", x.settled(0), 2);
            x = needing(10000, WIDE);
            due("10000", x.settled(0), 0);
        });
        sentence(14, "Its HEAT then is the lowest of its first BOX", () -> {
            StarShells x = needing(5, "push 0=0 to 0,10=10 to 10,12=10 to 10,22=0 to 0,30=5 to 5;");
            due("BOXES", x.of(0, 0, 2), 3);
            due("HEAT", x.of(0, 0, 3), 5);
            due("the greatest of that BOX", x.of(0, 0, 4), 5);
        });
        sentence(14, "(3, 4: NONE without)", () -> {
            StarShells x = needing(5, "push 0=6 to 6;");
            shell(x, 0, 3);
            x.fill(0, 0, 0, 4);
            due("NEED", x.of(0, 0, 1), 5);
            for (int shell = 0; shell < 2; shell++) {
                due("BOXES", x.of(0, shell, 2), 0);
                due("HEAT", x.of(0, shell, 3), NONE);
                due("the greatest", x.of(0, shell, 4), NONE);
            }
            x.fill(0, 1, 0, 4);
            due("NEED 6", x.of(0, 0, 3), 0);
            due("the other SHELL is still without", x.of(0, 1, 3), NONE);
        });
    }

    private static void box(StarShells x, int k, int low, int high) {
        due("box(0, 0, " + k + ", false)", x.box(0, 0, k, false), low);
        due("box(0, 0, " + k + ", true)", x.box(0, 0, k, true), high);
    }

    private static void boxes() {
        sentence(15, "BOXES: runs of such HEATS, by rising ones", () -> {
            StarShells x = needing(5, "push 9=5 to 5,10=6 to 6,11=5 to 5;");
            due("one HEAT between parts them", x.of(0, 0, 2), 2);
            box(x, 0, 0, 9);
            box(x, 1, 11, 999);
            x = needing(6, "push 9=5 to 5,10=6 to 6,11=5 to 5;");
            due("BOXES", x.of(0, 0, 2), 1);
            box(x, 0, 10, 10);
            x = needing(5, "push 9=5 to 5,10=4 to 6,11=0 to 5,12=5 to 9,13=5 to 5;");
            due("a run across POINTS is one", x.of(0, 0, 2), 1);
            box(x, 0, 0, 999);
            x = needing(5, "push 0=0 to 0,10=10 to 10,20=0 to 0,30=10 to 10,40=0 to 0,50=10 to 10,60=0 to 0,70=10 to 10;");
            due("as many as 8 POINTS can make", x.of(0, 0, 2), 7);
            for (int k = 0; k < 7; k++) {
                box(x, k, 5 + 10 * k, 5 + 10 * k);
            }
            box(x, 7, NONE, NONE);
            x = needing(0, "kind A 1;");
            due("without a TABLE", x.of(0, 0, 2), 1);
            box(x, 0, 0, 999);
            x = needing(1, "kind A 1;");
            due("without a TABLE", x.of(0, 0, 2), 0);
            box(x, 0, NONE, NONE);
        });
        sentence(15, "The k-th BOX (from 0): its lowest HEAT (high false), its greatest", () -> {
            StarShells x = needing(5, "push 10=0 to 0,11=5 to 5,13=5 to 5,14=0 to 0,997=0 to 0,998=5 to 5;");
            box(x, 0, 11, 13);
            box(x, 1, 998, 999);
            box(x, 2, NONE, NONE);
            // Of each SHELL and STAR by itself, and as the parts are by then: NEEDS 45, 30 and 10, and 20.
            x = with(IDENTITY);
            shell(x, 0, 10);
            shell(x, 0, 20);
            shell(x, 0, 20);
            shell(x, 1, 40);
            x.rules(0, 1, 0);
            x.rules(1, 1, 0);
            due("the rim of STAR 0", x.box(0, 2, 0, true), 10);
            due("STAR 1", x.box(1, 0, 0, true), 20);
            due("between", x.box(0, 1, 0, false), 30);
            due("the middle", x.box(0, 0, 0, false), 45);
            x.fill(0, 2, 0, 30);
            due("between", x.box(0, 1, 0, true), 40);
            x.rules(0, 2, 0);
            due("the middle", x.box(0, 0, 0, true), 27);
        });
        sentence(15, "NONE if there is none such", () -> {
            StarShells x = needing(5, WIDE);
            box(x, 0, 0, 999);
            box(x, 1, NONE, NONE);
            for (int far : FAR) {
                box(x, far, NONE, NONE);
                due("box(" + far + ", ..)", x.box(far, 0, 0, false), NONE);
                due("box(0, " + far + ", ..)", x.box(0, far, 0, true), NONE);
            }
            due("box(2, ..)", x.box(2, 0, 0, false), NONE);
            due("box(1, 0, ..)", x.box(1, 0, 0, false), NONE);
            due("box(0, 1, ..)", x.box(0, 1, 0, false), NONE);
            due("box(0, 16, ..)", x.box(0, 16, 0, true), NONE);
        });
    }

    private static void others() {
        sentence(14, "NONE for others", () -> {
            StarShells x = needing(5, WIDE);
            for (int far : FAR) {
                due("of(0, 0, " + far + ")", x.of(0, 0, far), NONE);
                for (int what = 0; what < 6; what++) {
                    due("of(" + far + ", 0, " + what + ")", x.of(far, 0, what), NONE);
                    due("of(0, " + far + ", " + what + ")", x.of(0, far, what), NONE);
                }
            }
            due("of(0, 0, 6)", x.of(0, 0, 6), NONE);
            for (int what = 0; what < 6; what++) {
                due("of(2, 0, " + what + ")", x.of(2, 0, what), NONE);
                due("of(1, 0, " + what + ")", x.of(1, 0, what), NONE);
                due("of(0, 1, " + what + ")", x.of(0, 1, what), NONE);
                due("of(0, 16, " + what + ")", x.of(0, 16, what), NONE);
            }
        });
    }

    private static void settled() {
        sentence(17, "0 not SETTLED, 1 SETTLED, 2 and each SHELL has one BOX alone", () -> {
            // NEED 5 has two BOXES, NEED 10 one, NEED 11 none.
            StarShells x = needing(10, "push 0=0 to 0,10=10 to 10,20=0 to 0;");
            due("settled(0)", x.settled(0), 2);
            x.fill(0, 0, 0, 10);
            due("two BOXES", x.settled(0), 1);
            x.fill(0, 0, 0, 22);
            due("no BOX", x.settled(0), 0);
            // NEEDS 10 and 5, then 11 and 5, then 10 and 10.
            x.fill(0, 0, 0, 0);
            shell(x, 0, 10);
            due("one and two", x.settled(0), 1);
            x.fill(0, 0, 0, 2);
            due("none and two", x.settled(0), 0);
            x.fill(0, 0, 0, 0);
            shell(x, 0, 0);
            x.fill(0, 1, 0, 0);
            x.fill(0, 2, 0, 20);
            due("none, none and one", x.settled(0), 0);
            x.fill(0, 2, 0, 10);
            due("one, one and two", x.settled(0), 1);
            x.look(0);
            due("by no push", x.settled(0), 0);
        });
        sentence(17, "NONE for others", () -> {
            StarShells x = needing(10, WIDE);
            for (int far : FAR) {
                due("settled(" + far + ")", x.settled(far), NONE);
            }
            due("settled(2)", x.settled(2), NONE);
        });
        sentence(17, "A STAR without SHELLS isn't", () -> {
            StarShells x = with(WIDE);
            due("settled(0)", x.settled(0), 0);
            due("settled(1)", x.settled(1), 0);
            shell(x, 1);
            due("settled(1)", x.settled(1), 2);
            due("settled(0)", x.settled(0), 0);
        });
    }
}
