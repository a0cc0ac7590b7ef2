/** The edges of promises 27 and 28: what was SEEN, and the UNITS that FIT. */
final class FitBoundaries extends Sentences {
    /** FAR without NONE, which asks for light or for how many. */
    private static final int[] FAR_BUT_NONE = {LEAST, LEAST + 1, -3, -2, GREATEST - 1, GREATEST};

    static void run() {
        seeing();
        refused();
        units();
        tones();
        light();
        asked();
    }

    private static void seeing() {
        sentence(27, "SEEN: a TONE (k 0 .. 6), or light (k NONE; from .. to 0 .. 1000000000): how many", () -> {
            StarShells x = new StarShells();
            due("a STAR without SHELLS", x.seen(0, 0, 0, 0), 1);
            due("seen", x.seen(1, 6, 0, 400), 2);
            due("seen", x.seen(0, 6, 400, 400), 3);
            due("seen", x.seen(1, NONE, 0, 0), 4);
            due("seen", x.seen(0, NONE, 0, 1000000000), 5);
            due("seen", x.seen(0, NONE, 1000000000, 1000000000), 6);
            due("light beyond what a TONE can be", x.seen(0, NONE, 401, 402), 7);
            due("the same again", x.seen(0, NONE, 401, 402), 8);
            due("about(6)", x.about(6), 8);
        });
        sentence(27, "the k-th TONE's BOX is from one to one (0 .. 400; 20 at most)", () -> {
            StarShells x = new StarShells();
            for (int n = 1; n <= 20; n++) {
                due("seen", x.seen(n % 2, n % 8 - 1, 0, 400), n);
            }
            for (int star = 0; star < 2; star++) {
                due("the 21st", x.seen(star, 0, 0, 400), NONE);
                due("the 21st", x.seen(star, NONE, 0, 400), NONE);
            }
            due("about(6)", x.about(6), 20);
            // All of them count, the last one too.
            x = needing(100, IDENTITY);
            for (int n = 1; n < 20; n++) {
                x.seen(n % 2, 0, n % 2 == 0 ? 3 : 77, n % 2 == 0 ? 10 : 77);
            }
            fit(x, 1, 2, 3);
            due("the 20th", x.seen(0, 0, 0, 10), 20);
            fit(x, 1, 2, 3);
            due("the 21st", x.seen(0, 0, 5, 5), NONE);
            fit(x, 1, 2, 3);
            due("back()", x.back(), 0);
            tell(x, IDENTITY);
            shell(x, 0, 200);
            for (int n = 1; n < 20; n++) {
                x.seen(0, NONE, 0, n);
            }
            due("light alone", x.fits(0, NONE), 200);
            due("the 20th", x.seen(0, 0, 5, 5), 20);
            fit(x, 2);
        });
    }

    private static void refused() {
        sentence(27, "NONE for others, or if there are 20", () -> {
            StarShells x = new StarShells();
            for (int far : FAR_BUT_NONE) {
                due("seen(" + far + ", ..)", x.seen(far, 0, 0, 0), NONE);
                due("seen(0, " + far + ", ..)", x.seen(0, far, 0, 0), NONE);
            }
            due("seen(2, ..)", x.seen(2, 0, 0, 0), NONE);
            due("seen(-1, ..)", x.seen(-1, 0, 0, 0), NONE);
            due("seen(0, 7, ..)", x.seen(0, 7, 0, 0), NONE);
            int[][] spans = {{-1, 0}, {-1, -1}, {LEAST, 0}, {0, 401}, {400, 401}, {401, 401}, {0, GREATEST}, {1, 0},
                {400, 399}, {LEAST, GREATEST}, {GREATEST, LEAST}};
            for (int[] span : spans) {
                due("a TONE from " + span[0] + " to " + span[1], x.seen(0, 0, span[0], span[1]), NONE);
            }
            int[][] lights = {{-1, 0}, {-1, -1}, {LEAST, 0}, {0, 1000000001}, {1000000001, 1000000001}, {0, GREATEST},
                {1, 0}, {1000000000, 999999999}, {LEAST, GREATEST}};
            for (int[] span : lights) {
                due("light from " + span[0] + " to " + span[1], x.seen(0, NONE, span[0], span[1]), NONE);
            }
            due("about(6)", x.about(6), 0);
            due("seen", x.seen(0, 0, 0, 0), 1);
        });
    }

    /** One SHELL that weighs twice this, so that NEED is it by a UNIT of 1. */
    private static StarShells needing(int need, String text) {
        StarShells x = with(text);
        shell(x, 0, Math.min(2 * need, 100000), Math.max(2 * need - 100000, 0));
        return x;
    }

    private static void fit(StarShells x, int... units) {
        due("fits(0, -1)", x.fits(0, NONE), units.length);
        for (int i = 0; i < units.length; i++) {
            due("fits(0, " + i + ")", x.fits(0, i), units[i]);
        }
        due("fits(0, " + units.length + ")", x.fits(0, units.length), NONE);
    }

    private static void units() {
        sentence(28, "UNITS that FIT (1 .. 200)", () -> {
            fit(needing(400, "push 0=300 to 500;"), 1);
            fit(needing(400, "push 0=400 to 400;"), 1);
            fit(needing(400, "push 0=401 to 500;"));
            fit(needing(40000, "push 0=0 to 200;"), 200);
            fit(needing(40000, "push 0=0 to 201;"), 199, 200);
            // By 201 NEED would be 199.
            fit(needing(40000, "push 0=0 to 199;"));
            StarShells x = needing(200, WIDE);
            due("all", x.fits(0, NONE), 200);
            due("the first", x.fits(0, 0), 1);
            due("the last", x.fits(0, 199), 200);
            due("beyond", x.fits(0, 200), NONE);
        });
        sentence(28, "by which, in place of its own, it is SETTLED", () -> {
            StarShells x = needing(12, "push 0=4 to 6;");
            x.rules(0, 100000, 7);
            due("not by its own", x.settled(0), 0);
            fit(x, 2, 3);
            due("its own stays", x.about(10), 100000);
            due("settled(0)", x.settled(0), 0);
            x.rules(0, 2, 7);
            fit(x, 2, 3);
            due("settled(0)", x.settled(0), 2);
            // Two BOXES are SETTLED too; each SHELL must be.
            x = needing(12, "push 0=6 to 6,1=0 to 0,2=6 to 6,3=99 to 99;");
            due("fits(0, 0)", x.fits(0, 0), 2);
            x = needing(12, "push 0=4 to 6;");
            shell(x, 0, 0);
            fit(x);
            due("a STAR without SHELLS", x.fits(1, NONE), 0);
            due("a STAR without SHELLS", x.fits(1, 0), NONE);
        });
    }

    private static void tones() {
        sentence(28, "and each BOX of a TONE is in what was SEEN", () -> {
            // One SHELL of K 100 / u / 10: by 1 it is 10, by 2 it is 5, by 3 it is 3.
            int[][] spans = {{10, 10}, {5, 5}, {5, 10}, {4, 11}, {6, 9}, {3, 4}, {11, 400}, {2, 3}};
            int[][] units = {{1}, {2}, {1, 2}, {1, 2}, {}, {3}, {}, {3, 4, 5}};
            for (int i = 0; i < spans.length; i++) {
                StarShells x = needing(100, IDENTITY);
                due("seen", x.seen(0, 0, spans[i][0], spans[i][1]), 1);
                fit(x, units[i]);
            }
            StarShells x = needing(100, IDENTITY);
            x.seen(1, 0, 77, 77);
            x.seen(1, NONE, 77, 77);
            due("what was SEEN of the other STAR", x.fits(0, NONE), 200);
            x.seen(0, 0, 3, 10);
            fit(x, 1, 2, 3);
            x.seen(0, 0, 0, 5);
            fit(x, 2, 3);
            x.seen(0, 1, 0, 400);
            fit(x);
            // Two SHELLS of K 8 and 3 by 1: TONES 2 and 12.
            x = with(IDENTITY);
            shell(x, 0, 40);
            shell(x, 0, 60);
            x.seen(0, 0, 2, 400);
            fit(x, 1);
            x.seen(0, 1, 12, 12);
            fit(x, 1);
            x.seen(0, 1, 13, 13);
            fit(x);
        });
        sentence(28, "TONES of a STAR of 7 SHELLS at most", () -> {
            StarShells x = with(WIDE);
            for (int shell = 0; shell < 7; shell++) {
                shell(x, 0, 10);
            }
            x.seen(0, 6, 0, 0);
            due("7 SHELLS", x.fits(0, NONE), 200);
            shell(x, 0, 10);
            due("of 8 there are none", x.fits(0, NONE), 0);
            x.back();
            tell(x, WIDE);
            for (int shell = 0; shell < 16; shell++) {
                shell(x, 0, 10);
            }
            due("if none was SEEN", x.fits(0, NONE), 200);
            x.seen(0, NONE, 0, 0);
            due("nor if light was", x.fits(0, NONE), 200);
        });
    }

    private static void light() {
        sentence(28, "and the spans of light have something in common", () -> {
            // HEAT 100 / u: light from 10 times that to 20 times, cut and rounded where it must be.
            String text = IDENTITY + "chain 0 A 1 to B 1 light 10;rate 0 0=0 to 0,999=999 to 1998;";
            int[][] spans = {{2000, 9999}, {2001, 9999}, {0, 4}, {1000, 1000}, {999, 999}, {1001, 1001}, {500, 999},
                {500, 500}, {501, 999}, {334, 499}, {990, 999}};
            int[][] units = {{1}, {}, null, {1, 2}, {2}, {1}, {2, 3, 4}, {2, 3, 4}, {2, 3}, {3, 4, 5}, {2}};
            for (int i = 0; i < spans.length; i++) {
                StarShells x = needing(100, text);
                due("seen", x.seen(0, NONE, spans[i][0], spans[i][1]), 1);
                if (units[i] == null) {
                    due("0 by 101 and more", x.fits(0, NONE), 100);
                    due("the first of them", x.fits(0, 0), 101);
                } else {
                    fit(x, units[i]);
                }
            }
            StarShells x = needing(100, text);
            x.seen(0, NONE, 500, 1000);
            x.seen(0, NONE, 1000, 1000000000);
            fit(x, 1, 2);
            x.seen(0, 0, 10, 10);
            fit(x, 1);
            // THROUGH of the rim: of all SHELLS together.
            x = with(WIDE + "chain 0 A 1 to B 1 light 10;rate 0 0=1 to 2;");
            shell(x, 0, 9);
            shell(x, 0, 9);
            x.seen(0, NONE, 0, 20);
            due("from 20", x.fits(0, NONE), 200);
            x.seen(0, NONE, 40, 50);
            due("to 40", x.fits(0, NONE), 200);
            x.seen(0, NONE, 41, 50);
            due("beyond", x.fits(0, NONE), 0);
        });
    }

    private static void asked() {
        sentence(28, "The i-th UNIT (by rising ones) that FITS; how many (i NONE)", () -> {
            // NEED is 1000 / u: 52 and 50 by 19 and 20, 9 by 101 .. 111, 5 by 167 .. 200.
            StarShells x = needing(1000, "push 0=5 to 5,1=9 to 9,2=50 to 50,3=52 to 52;");
            int first = x.fits(0, 0);
            due("the first", first, 19);
            due("the second", x.fits(0, 1), 20);
            due("the third has NEED 9", x.fits(0, 2), 101);
            int count = x.fits(0, NONE);
            due("2 of these, 11 by 9 and 34 by 5", count, 47);
            int ahead = 0;
            for (int i = 0; i < count; i++) {
                int unit = x.fits(0, i);
                due("they rise", unit > ahead, true);
                ahead = unit;
            }
            due("the last", ahead, 200);
            due("beyond", x.fits(0, count), NONE);
        });
        sentence(28, "NONE if there is none such, and for others", () -> {
            StarShells x = needing(400, "push 0=300 to 500;");
            fit(x, 1);
            for (int far : FAR_BUT_NONE) {
                due("fits(" + far + ", 0)", x.fits(far, 0), NONE);
                due("fits(" + far + ", -1)", x.fits(far, NONE), NONE);
                due("fits(0, " + far + ")", x.fits(0, far), NONE);
            }
            due("fits(2, 0)", x.fits(2, 0), NONE);
            due("fits(-1, -1)", x.fits(-1, NONE), NONE);
            due("fits(0, 1)", x.fits(0, 1), NONE);
            due("fits(0, 200)", x.fits(0, 200), NONE);
        });
    }
}
