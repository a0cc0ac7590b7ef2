/** The edges of promises 29 to 31: THE IMAGE, what BACK leaves alone, and about. */
final class ImageBoundaries extends Sentences {
    private static final String BURNING = WIDE + "chain 0 A 1 to B 1 light 5;rate 0 0=1 to 1;";

    static void run() {
        all();
        left();
        stays();
        full();
        abouts();
    }

    /** Something of all that THE IMAGE holds. */
    private static StarShells lively() {
        StarShells x = with(BURNING, "kind C 7;kind D 8;", "kind C 9;push 0=0 to 8888;haze 0=1 to 2;");
        shell(x, 0, 50, 0, 3);
        shell(x, 0, 1);
        shell(x, 1, 60);
        x.look(2);
        x.rules(0, 11, 12);
        x.rules(1, 13, 14);
        due("steps(0, 2)", x.steps(0, 2), 2);
        due("steps(1, 1)", x.steps(1, 1), 1);
        due("seen", x.seen(0, 0, 1, 2), 1);
        due("seen", x.seen(1, NONE, 3, 4), 2);
        return x;
    }

    private static void isLively(StarShells x) {
        int[] about = {3, 2, 2, 1, 3, 4, 2};
        for (int what = 0; what < about.length; what++) {
            due("about(" + what + ")", x.about(what), about[what]);
        }
        due("about(8)", x.about(8), 3);
        due("about(10)", x.about(10), 11);
        due("about(11)", x.about(11), 13);
        due("about(20)", x.about(20), 12);
        due("about(21)", x.about(21), 14);
        parts(x, 0, 0, 48, 2, 3);
        parts(x, 0, 1, 0, 1, 0);
        parts(x, 1, 0, 59, 1, 0);
        due("parts(0, 2, 0)", x.parts(0, 2, 0), NONE);
        due("parts(1, 1, 0)", x.parts(1, 1, 0), NONE);
        due("light(0, 0, 0)", x.light(0, 0, 0), 10);
        due("light(0, 1, 0)", x.light(0, 1, 0), 5);
        due("light(1, 0, 0)", x.light(1, 0, 0), 5);
        event(x, 0, 0, 0, 0, 0, 1);
        event(x, 1, 0, 0, 1, 0, 0);
        event(x, 2, 0, 0, 1, 0, 1);
        event(x, 3, 2, 1, 0, 0, 1);
        event(x, 4);
        due("weight(2)", x.weight(2), 7);
        due("law(0, 0, true)", x.law(0, 0, true), 9999);
        due("law(1, 0, true)", x.law(1, 0, true), 0);
    }

    /** All of it is changed. */
    private static void change(StarShells x) {
        due("text()", tell(x, "kind C 1;kind D 1;push 0=0 to 7777,5=1 to 2;rate 0 0=9 to 9;"), 4);
        due("text()", tell(x, WIDE), 5);
        x.shell(0);
        x.fill(0, 2, 5, 5);
        x.shell(1);
        x.fill(1, 1, 0, 7);
        x.fill(0, 1, 0, 20);
        x.rules(0, 1, 2);
        x.rules(1, 3, 4);
        due("steps(0, 2)", x.steps(0, 2), 2);
        due("steps(1, 1)", x.steps(1, 1), 1);
        due("hand(0, 1)", x.hand(0, 1), true);
        due("seen", x.seen(0, 3, 4, 5), 3);
        x.look(4);
    }

    private static void all() {
        sentence(29, "THE IMAGE is as all is now", () -> {
            StarShells x = lively();
            due("image()", x.image(), 3);
            isLively(x);
            change(x);
            due("back()", x.back(), 3);
            isLively(x);
            // THE LAWS ahead and behind THE LOOK are as they were told.
            due("look(4)", x.look(4), false);
            due("look(3)", x.look(3), true);
            due("weight(2)", x.weight(2), 9);
            due("law(0, 0, true)", x.law(0, 0, true), 8888);
            due("law(1, 0, true)", x.law(1, 0, true), 2);
            due("look(2)", x.look(2), true);
            // What was LIT in each STAR's STEP ahead is: it goes on, and nothing is LIT anew.
            due("steps(0, 1)", x.steps(0, 1), 1);
            due("steps(1, 1)", x.steps(1, 1), 1);
            due("about(5)", x.about(5), 4);
            // A SHELL that went away comes again without parts or light.
            due("shell(0)", x.shell(0), 2);
            parts(x, 0, 2, 0, 0, 0, 0, 0, 0);
            due("light(0, 2, 0)", x.light(0, 2, 0), 0);
        });
        sentence(29, "LIT: it made some light there, and didn't in that STAR's STEP ahead (or there was none)", () -> {
            StarShells x = with(BURNING);
            shell(x, 0, 50);
            due("image()", x.image(), 1);
            due("steps(0, 1)", x.steps(0, 1), 1);
            due("back()", x.back(), 1);
            due("about(5)", x.about(5), 0);
            due("it was not LIT yet", x.steps(0, 1), 1);
            due("about(5)", x.about(5), 1);
        });
        sentence(29, "THE SHEET: the TIME", () -> {
            StarShells x = new StarShells();
            due("image()", x.image(), 0);
            x.text();
            due("image()", x.image(), 1);
            x.text();
            x.look(0);
            due("image()", x.image(), 2);
        });
    }

    private static void left() {
        sentence(29, "but the tape, the latest FAULT, THE SHEET", () -> {
            StarShells x = lively();
            put(x, "kind A 1;#");
            due("ahead of THE IMAGE a FAULT", x.text(), NONE);
            put(x, "kind E 5;");
            due("sheet(0)", x.sheet(0), true);
            due("image()", x.image(), 3);
            due("end(0)", x.end(0), 0);
            due("a FAULT", tell(x, "kind A 0;"), NONE);
            put(x, "kind F");
            due("sheet(1)", x.sheet(1), true);
            due("alter", x.alter(15, 4, 9), true);
            change0(x);
            due("back()", x.back(), 3);
            due("the tape stays", x.about(7), 6);
            due("the FAULT stays", x.fault(0), 2);
            due("its place stays", x.fault(1), 7);
            due("THE SHEET stays, and of which STAR it is", x.check(0), 1);
            due("check(1)", x.check(1), 15);
            due("steps(1, 1)", x.steps(1, 1), 1);
            due("check(0)", x.check(0), 2);
            put(x, " 5;");
            due("text()", x.text(), 4);
            due("weight(5)", x.weight(5), 5);
            due("weight(4)", x.weight(4), 1);
            // None was taken, or no text was read, and it is as if back() were not.
            x = new StarShells();
            due("image()", x.image(), 0);
            due("sheet(0)", x.sheet(0), true);
            due("text()", tell(x, "#"), NONE);
            due("back()", x.back(), 0);
            due("check(0)", x.check(0), 0);
            due("fault(0)", x.fault(0), 1);
        });
    }

    /** STEPS of the other STAR, so that THE SHEET isn't touched by them. */
    private static void change0(StarShells x) {
        due("steps(0, 1)", x.steps(0, 1), 1);
        due("rules", x.rules(1, 1, 1), true);
    }

    private static void stays() {
        sentence(30, "BACK to THE IMAGE (it stays): the TIME", () -> {
            StarShells x = lively();
            due("image()", x.image(), 3);
            for (int round = 0; round < 3; round++) {
                change(x);
                due("back()", x.back(), 3);
                isLively(x);
            }
            due("back() again", x.back(), 3);
            isLively(x);
            // Another one takes its place.
            due("text()", tell(x, "kind E 3;"), 4);
            due("image()", x.image(), 4);
            due("text()", tell(x, "kind E 4;"), 5);
            due("back()", x.back(), 4);
            due("weight(4)", x.weight(4), 3);
            due("look(5)", x.look(5), false);
        });
    }

    private static void full() {
        sentence(30, "BACK to THE IMAGE (it stays)", () -> {
            // What was full has room again: TIME, STEPS, SEEN ones and SHELLS.
            StarShells x = with(BURNING);
            shell(x, 0, 1000);
            due("image()", x.image(), 1);
            for (int round = 0; round < 2; round++) {
                for (int time = 2; time <= 30; time++) {
                    due("text()", x.text(), time);
                }
                due("text()", x.text(), NONE);
                for (int i = 0; i < 6; i++) {
                    due("steps(0, 50)", x.steps(0, 50), 50);
                }
                due("steps(0, 50)", x.steps(0, 50), 0);
                for (int n = 1; n <= 20; n++) {
                    due("seen", x.seen(0, 0, n, n), n);
                }
                due("seen", x.seen(0, 0, 0, 0), NONE);
                for (int shell = 1; shell < 16; shell++) {
                    due("shell(0)", x.shell(0), shell);
                }
                due("shell(0)", x.shell(0), NONE);
                due("back()", x.back(), 1);
            }
            due("shell(0)", x.shell(0), 1);
        });
    }

    private static void abouts() {
        sentence(31, "0 TIME, 1 THE LOOK, 2, 3 SHELLS of a STAR, 4 STEPS, 5 EVENTS, 6 SEEN ones, 7 bytes of the tape", () -> {
            StarShells x = lively();
            put(x, "123");
            int[] want = {3, 2, 2, 1, 3, 4, 2, 3};
            for (int what = 0; what < want.length; what++) {
                due("about(" + what + ")", x.about(what), want[what]);
            }
        });
        sentence(31, "8 CLAUSES of the latest text that was taken (0 without)", () -> {
            StarShells x = new StarShells();
            due("without", x.about(8), 0);
            tell(x, "#");
            due("still without", x.about(8), 0);
            tell(x, "kind A 1;kind B 1;");
            due("two", x.about(8), 2);
            tell(x, "kind A 1;kind B 1;kind C 1;#");
            due("that one wasn't taken", x.about(8), 2);
            x.look(0);
            due("whatever THE LOOK", x.about(8), 2);
            put(x, "kind A 1;kind B 1;kind C 1;");
            due("not read yet", x.about(8), 2);
            x.image();
            x.text();
            due("three", x.about(8), 3);
            x.text();
            due("an empty one", x.about(8), 0);
            x.back();
            due("back()", x.about(8), 2);
        });
        sentence(31, "10 + star: UNIT, 20 + star: LIMIT", () -> {
            StarShells x = new StarShells();
            x.rules(0, 1, 1000000);
            x.rules(1, 100000, 0);
            due("about(10)", x.about(10), 1);
            due("about(11)", x.about(11), 100000);
            due("about(20)", x.about(20), 1000000);
            due("about(21)", x.about(21), 0);
        });
        sentence(31, "NONE for others", () -> {
            StarShells x = lively();
            for (int far : FAR) {
                due("about(" + far + ")", x.about(far), NONE);
            }
            for (int what = 9; what < 40; what++) {
                boolean told = what == 10 || what == 11 || what == 20 || what == 21;
                if (!told) {
                    due("about(" + what + ")", x.about(what), NONE);
                }
            }
        });
        sentence(31, "The constants: `NONE = -1`: None.", () -> due("NONE", StarShells.NONE, -1));
    }
}
