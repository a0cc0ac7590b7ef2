/** The edges of promises 1 to 4: a new object, the tape, and when it is a text. */
final class TapeBoundaries extends Sentences {
    private static final int BLANKS = 0x20202020;

    static void run() {
        newObject();
        feeding();
        ending();
        reading();
        times();
    }

    private static void hasNoShells(StarShells x) {
        for (int star = 0; star < 2; star++) {
            due("about(2 + " + star + ")", x.about(2 + star), 0);
            due("parts", x.parts(star, 0, 0), NONE);
            due("fill", x.fill(star, 0, 0, 1), false);
            due("of", x.of(star, 0, 0), NONE);
            due("box", x.box(star, 0, 0, false), NONE);
            due("through", x.through(star, 0, true), NONE);
            due("light", x.light(star, 0, 0), NONE);
            due("settled", x.settled(star), 0);
            due("steps", x.steps(star, 1), 0);
            due("hand", x.hand(star, 1), false);
            due("below", x.below(star, 0), NONE);
            due("tone", x.tone(star, 0), NONE);
        }
    }

    private static void hasNoLaws(StarShells x) {
        for (int kind = 0; kind < 6; kind++) {
            due("weight(" + kind + ")", x.weight(kind), 1);
        }
        for (int chain = 0; chain < 5; chain++) {
            due("chain(" + chain + ", 0)", x.chain(chain, 0), NONE);
            due("chain(" + chain + ", 4)", x.chain(chain, 4), NONE);
        }
        for (int table = 0; table < 7; table++) {
            due("law(" + table + ", 0, true)", x.law(table, 0, true), 0);
            due("law(" + table + ", 999, false)", x.law(table, 999, false), 0);
        }
        due("about(0)", x.about(0), 0);
        due("about(1)", x.about(1), 0);
        due("about(8)", x.about(8), 0);
        due("look(1)", x.look(1), false);
    }

    private static void isNew(StarShells x) {
        hasNoShells(x);
        hasNoLaws(x);
        for (int what = 4; what <= 6; what++) {
            due("about(" + what + ")", x.about(what), 0);
        }
        due("event(0, 0)", x.event(0, 0), NONE);
        due("about(10)", x.about(10), 100);
        due("about(11)", x.about(11), 100);
        due("about(20)", x.about(20), 1000);
        due("about(21)", x.about(21), 1000);
    }

    private static void newObject() {
        sentence(1, "STARS without SHELLS", () -> hasNoShells(new StarShells()));
        sentence(1, "no LAWS", () -> hasNoLaws(new StarShells()));
        sentence(1, "THE IMAGE is this", () -> {
            StarShells x = new StarShells();
            due("back()", x.back(), 0);
            isNew(x);
            due("text()", tell(x, WIDE + "kind F 2;chain 4 F 1 to A 2 light 3;rate 4 0=1 to 1;haze 0=1 to 1;"), 1);
            for (int star = 0; star < 2; star++) {
                shell(x, star, 1, 2, 3, 4, 5, 6);
                due("rules", x.rules(star, 7, 8), true);
                due("steps", x.steps(star, 2), 2);
                due("seen", x.seen(star, 0, 0, 0), star + 1);
            }
            due("about(5)", x.about(5), 2);
            due("back()", x.back(), 0);
            isNew(x);
            // SHELLS that come again have neither parts nor light of those ahead.
            due("shell(0)", x.shell(0), 0);
            parts(x, 0, 0, 0, 0, 0, 0, 0, 0);
            due("light(0, 0, 4)", x.light(0, 0, 4), 0);
        });
        sentence(1, "UNIT (1 .. 100000 of a STAR; at first 100)", () -> {
            StarShells x = new StarShells();
            due("about(10)", x.about(10), 100);
            due("about(11)", x.about(11), 100);
            shell(x, 0, 199);
            due("99 / 100", x.of(0, 0, 1), 0);
            x.fill(0, 0, 0, 200);
            due("100 / 100", x.of(0, 0, 1), 1);
        });
        sentence(1, "LIMIT (0 .. 1000000; at first 1000)", () -> {
            StarShells x = with(WIDE + "chain 0 A 1 to B 1 light 1;rate 0 0=9999 to 9999;haze 0=1000 to 1000;");
            due("about(20)", x.about(20), 1000);
            due("about(21)", x.about(21), 1000);
            shell(x, 1, 1000);
            due("a BAR of 1000", x.of(1, 0, 5), 0);
            x.fill(1, 0, 0, 1001);
            due("a BAR of 1001", x.of(1, 0, 5), 1);
        });
    }

    /** Blanks with one other sign among the twenty. */
    private static int feedOne(StarShells x, int at, int sign) {
        int[] w = {BLANKS, BLANKS, BLANKS, BLANKS, BLANKS};
        int shift = 24 - 8 * (at % 4);
        w[at / 4] = w[at / 4] & ~(255 << shift) | sign << shift;
        return x.feed(w[0], w[1], w[2], w[3], w[4]);
    }

    private static int feedBlanks(StarShells x) {
        return x.feed(BLANKS, BLANKS, BLANKS, BLANKS, BLANKS);
    }

    private static int feedNonsense(StarShells x) {
        return x.feed(-1, -1, -1, -1, -1);
    }

    private static StarShells withBlanks(int feeds) {
        StarShells x = new StarShells();
        for (int n = 1; n <= feeds; n++) {
            due("feed " + n, feedBlanks(x), 20 * n);
        }
        return x;
    }

    private static void feeding() {
        sentence(2, "Twenty bytes come behind the tape, the highest of a first", () -> {
            for (int at = 0; at < 20; at++) {
                for (int sign : new int[] {0, '#', 127, 128, 255}) {
                    StarShells x = withBlanks(1);
                    due("feed", feedOne(x, at, sign), 40);
                    due("feed", feedBlanks(x), 60);
                    due("text()", x.text(), NONE);
                    due("fault(0)", x.fault(0), 1);
                    due("fault(1) for byte " + sign, x.fault(1), 20 + at);
                }
            }
            // "kind", " A 2", "3;ki", "nd B", "45; "
            StarShells x = new StarShells();
            due("feed", x.feed(0x6b696e64, 0x20412032, 0x333b6b69, 0x6e642042, 0x34353b20), 20);
            due("text()", x.text(), 1);
            due("weight(0)", x.weight(0), 23);
            due("weight(1)", x.weight(1), 45);
        });
        sentence(2, "how many it has", () -> {
            StarShells x = withBlanks(20);
            due("end(0)", x.end(0), 0);
            due("feed behind 0", feedBlanks(x), 20);
            due("end(7)", x.end(7), 7);
            due("feed behind 7", feedBlanks(x), 27);
        });
        sentence(2, "NONE, and none come, if there would be more than 400", () -> {
            for (int left : new int[] {400, 399, 382, 381}) {
                StarShells x = withBlanks(20);
                due("end(" + left + ")", x.end(left), left);
                due("feed at " + left, feedNonsense(x), NONE);
                due("feed at " + left, feedNonsense(x), NONE);
                due("about(7)", x.about(7), left);
                due("text() of blanks alone", x.text(), 1);
            }
            StarShells x = withBlanks(20);
            due("end(380)", x.end(380), 380);
            due("feed at 380", feedNonsense(x), 400);
            due("feed at 400", feedBlanks(x), NONE);
            due("text()", x.text(), NONE);
            due("fault(1)", x.fault(1), 380);
        });
    }

    private static void ending() {
        sentence(3, "The tape has its first n bytes alone: n", () -> {
            StarShells x = new StarShells();
            due("end(0) of an empty tape", x.end(0), 0);
            put(x, "kind A 9;#nonsense####");
            due("all of it", x.end(22), 22);
            due("end(9)", x.end(9), 9);
            due("about(7)", x.about(7), 9);
            due("what was cut is gone", x.end(10), NONE);
            due("bytes come behind the ninth", feedBlanks(x), 29);
            due("text()", x.text(), 1);
            due("weight(0)", x.weight(0), 9);
            // A TOKEN that is cut through ends there.
            put(x, "kind B 45;");
            due("end(8)", x.end(8), 8);
            put(x, ";");
            due("text()", x.text(), 2);
            due("weight(1)", x.weight(1), 4);
            put(x, "kindly");
            due("end(4)", x.end(4), 4);
            due("text()", x.text(), NONE);
            due("the end can't stand there, the word can", x.fault(1), 4);
            put(x, "nonsense");
            due("end(0)", x.end(0), 0);
            due("text() of nothing", x.text(), 3);
        });
        sentence(3, "NONE, and nothing is done, if it has not so many", () -> {
            StarShells x = new StarShells();
            due("end(1) of an empty tape", x.end(1), NONE);
            put(x, "kind A 9;");
            for (int n : new int[] {10, 20, 400, 401, GREATEST}) {
                due("end(" + n + ") of 9", x.end(n), NONE);
                due("about(7)", x.about(7), 9);
            }
            due("text()", x.text(), 1);
            due("weight(0)", x.weight(0), 9);
            x = withBlanks(20);
            due("end(401) of 400", x.end(401), NONE);
            due("end(400) of 400", x.end(400), 400);
        });
        sentence(3, "or n is below 0", () -> {
            StarShells x = new StarShells();
            due("end(-1) of an empty tape", x.end(-1), NONE);
            put(x, "kind A 9;");
            for (int n : new int[] {-1, -2, -9, LEAST}) {
                due("end(" + n + ")", x.end(n), NONE);
                due("about(7)", x.about(7), 9);
            }
            due("text()", x.text(), 1);
        });
    }

    private static void reading() {
        sentence(4, "The tape (empty then) is a text: the TIME", () -> {
            StarShells x = new StarShells();
            due("text() of an empty tape", x.text(), 1);
            due("about(8)", x.about(8), 0);
            due("text()", tell(x, "kind A 2;"), 2);
            due("the tape is empty", x.about(7), 0);
            due("end(1)", x.end(1), NONE);
            due("text() of it", x.text(), 3);
            due("weight(0)", x.weight(0), 2);
            due("text() with a FAULT", tell(x, "kind A 3; #"), NONE);
            due("the tape is empty", x.about(7), 0);
            due("text() of it", x.text(), 4);
            due("weight(0)", x.weight(0), 2);
        });
        sentence(4, "TEXTS of up to 400 bytes", () -> {
            StringBuilder text = new StringBuilder("haze 7=3 to 4;");
            while (text.length() < 391) {
                text.append(text.length() % 3 == 0 ? '\n' : ' ');
            }
            StarShells x = new StarShells();
            due("text()", tell(x, text + "kind E 8;"), 1);
            due("weight(4)", x.weight(4), 8);
            due("law(1, 0, true)", x.law(1, 0, true), 4);
            due("about(8)", x.about(8), 2);
            fault(text + "kind E 8#", 1, 399);
            fault(text + "kind E 88", 1, 400);
            fault(text + "kind E 8", 1, 399);
            fault("a".repeat(400), 1, 0);
            fault("1".repeat(400), 1, 0);
            fault(" ".repeat(396) + "kind", 1, 400);
            fault(" ".repeat(393) + "kind A1", 1, 400);
            fault(" ".repeat(394) + "push 1", 1, 400);
            taken(" ".repeat(400));
        });
        sentence(4, "NONE: it has a FAULT", () -> {
            String good = "kind A 2;kind B 2;chain 1 A 1 to B 1 light 5;push 1=1 to 2,5=3 to 4;haze 2=5 to 6;rate 1 3=7 to 8;";
            StarShells x = with("kind D 4;", good);
            due("look(1)", x.look(1), true);
            String[] bad = {"kind A 3;kind B 3;kind C 3;#", "chain 1 B 1 to A 1 light 6;chain 0 C 1 to D 1 light 6;#",
                "push 0=0 to 0,5=9 to 9,7=9 to 9;#", "haze 0=0 to 0;#", "rate 1 0=0 to 0;rate 0 0=9 to 9;#", "kind A 5;"};
            int[] numbers = {1, 1, 1, 1, 1, 6};
            for (int i = 0; i < bad.length; i++) {
                due("text() of " + bad[i], tell(x, bad[i]), NONE);
                due("fault(0)", x.fault(0), numbers[i]);
                due("the TIME stays", x.about(0), 2);
                due("THE LOOK stays", x.about(1), 1);
                due("CLAUSES of the latest that was taken", x.about(8), 6);
            }
            due("look(2)", x.look(2), true);
            due("look(3)", x.look(3), false);
            int[] weights = {2, 2, 1, 4};
            for (int kind = 0; kind < 4; kind++) {
                due("weight(" + kind + ")", x.weight(kind), weights[kind]);
            }
            due("chain(0, 0)", x.chain(0, 0), NONE);
            due("chain(1, 0)", x.chain(1, 0), 0);
            due("chain(1, 4)", x.chain(1, 4), 5);
            due("law(0, 3, false)", x.law(0, 3, false), 2);
            due("law(1, 3, false)", x.law(1, 3, false), 5);
            due("law(2, 3, true)", x.law(2, 3, true), 0);
            due("law(3, 3, true)", x.law(3, 3, true), 8);
        });
    }

    private static StarShells atTime(int time) {
        StarShells x = new StarShells();
        for (int next = 1; next <= time; next++) {
            due("text()", tell(x, "kind A " + next + ";"), next);
        }
        return x;
    }

    private static void times() {
        sentence(4, "TIME: 0 at first; each text that is taken makes it one more", () -> {
            StarShells x = new StarShells();
            due("about(0)", x.about(0), 0);
            due("text()", x.text(), 1);
            due("about(0)", x.about(0), 1);
            due("text()", tell(x, "#"), NONE);
            due("about(0)", x.about(0), 1);
            due("text()", tell(x, "kind A 1;"), 2);
            due("about(0)", x.about(0), 2);
        });
        sentence(4, "or (the tape stays) the TIME is 30", () -> {
            StarShells x = atTime(29);
            due("a FAULT at 29", tell(x, "kind A 0;"), NONE);
            due("the tape is empty", x.about(7), 0);
            due("the 30th", tell(x, "kind A 77;"), 30);
            put(x, "kind A 78;");
            for (int round = 0; round < 2; round++) {
                due("text() at 30", x.text(), NONE);
                due("about(0)", x.about(0), 30);
                due("the tape stays", x.about(7), 10);
                due("it isn't read", x.weight(0), 77);
                due("fault(0)", x.fault(0), 0);
                due("about(8)", x.about(8), 1);
            }
            // A text with a FAULT isn't read either, nor an empty one.
            put(x, "#");
            due("text() at 30", x.text(), NONE);
            due("fault(0)", x.fault(0), 0);
            due("end(0)", x.end(0), 0);
            due("text() of nothing at 30", x.text(), NONE);
            due("look(30)", x.look(30), true);
            due("look(29)", x.look(29), true);
            due("weight(0)", x.weight(0), 29);
            put(x, "kind A 78;");
            due("text() at 30, looking at 29", x.text(), NONE);
            due("back()", x.back(), 0);
            due("the tape stays", x.about(7), 10);
            due("it is read then", x.text(), 1);
            due("weight(0)", x.weight(0), 78);
        });
    }
}
