/** The edges of promises 6 to 9: THE LOOK, and THE LAWS by it. */
final class LawBoundaries extends Sentences {
    static void run() {
        looks();
        kindsAndChains();
        tables();
        spans();
    }

    private static void looks() {
        sentence(6, "THE LOOK is at a TIME (0 to the latest): true", () -> {
            StarShells x = new StarShells();
            due("look(0) at first", x.look(0), true);
            for (int time = 1; time <= 30; time++) {
                due("text()", tell(x, "kind A " + time + ";"), time);
            }
            for (int time = 30; time >= 0; time--) {
                due("look(" + time + ")", x.look(time), true);
                due("about(1)", x.about(1), time);
                due("weight(0)", x.weight(0), Math.max(time, 1));
                due("about(0)", x.about(0), 30);
            }
        });
        sentence(6, "False for others", () -> {
            StarShells x = new StarShells();
            due("look(1) at TIME 0", x.look(1), false);
            due("look(-1) at TIME 0", x.look(-1), false);
            x = with("kind A 5;", "kind A 6;");
            due("look(1)", x.look(1), true);
            for (int time : FAR) {
                due("look(" + time + ")", x.look(time), false);
            }
            due("look(3)", x.look(3), false);
            due("about(1)", x.about(1), 1);
            due("weight(0)", x.weight(0), 5);
            due("back()", x.back(), 0);
            due("look(1) behind back()", x.look(1), false);
        });
        sentence(6, "THE LAWS are those told latest at or ahead of it (of each kind, chain, table by itself)", () -> {
            StarShells x = with("kind A 2;kind B 2;push 1=1 to 1,9=9 to 9;rate 0 0=1 to 1;",
                "chain 0 A 1 to B 1 light 5;haze 0=2 to 2;", "kind C 3;push 3=3 to 3;", "chain 0 B 2 to A 2 light 6;rate 0 5=4 to 4;");
            int[][] want = {{1, 1, NONE, 0, 0, 0}, {2, 1, NONE, 9, 0, 1}, {2, 1, 5, 9, 2, 1}, {2, 3, 5, 3, 2, 1},
                {2, 3, 6, 3, 2, 4}};
            for (int time : new int[] {4, 0, 3, 1, 2}) {
                due("look(" + time + ")", x.look(time), true);
                due("weight(0)", x.weight(0), want[time][0]);
                due("weight(2)", x.weight(2), want[time][1]);
                due("chain(0, 4)", x.chain(0, 4), want[time][2]);
                due("law(0, 999, true)", x.law(0, 999, true), want[time][3]);
                due("law(1, 0, false)", x.law(1, 0, false), want[time][4]);
                due("law(2, 0, false)", x.law(2, 0, false), want[time][5]);
            }
        });
        sentence(6, "at first, and behind each text that is taken, it is the latest", () -> {
            StarShells x = new StarShells();
            due("about(1)", x.about(1), 0);
            due("text()", x.text(), 1);
            due("about(1)", x.about(1), 1);
            due("look(0)", x.look(0), true);
            due("text()", tell(x, "#"), NONE);
            due("a text with a FAULT isn't taken", x.about(1), 0);
            due("text()", x.text(), 2);
            due("about(1)", x.about(1), 2);
        });
    }

    private static void kindsAndChains() {
        sentence(7, "WEIGHT of a KIND (0 .. 5)", () -> {
            StarShells x = with("kind A 1;kind B 99;kind F 98;");
            int[] want = {1, 99, 1, 1, 1, 98};
            for (int kind = 0; kind < 6; kind++) {
                due("weight(" + kind + ")", x.weight(kind), want[kind]);
            }
        });
        sentence(7, "NONE for others", () -> {
            StarShells x = with("kind A 3;kind F 4;");
            for (int kind : FAR) {
                due("weight(" + kind + ")", x.weight(kind), NONE);
            }
            due("weight(6)", x.weight(6), NONE);
        });
        sentence(8, "Of a CHAIN: 0 its first KIND, 1 of it, 2 its second KIND, 3 of it, 4 its light", () -> {
            StarShells x = with("kind F 3;chain 0 F 1 to A 3 light 0;chain 4 A 9 to F 3 light 999;");
            int[][] want = {{5, 1, 0, 3, 0}, {0, 9, 5, 3, 999}};
            for (int what = 0; what < 5; what++) {
                due("chain(0, " + what + ")", x.chain(0, what), want[0][what]);
                due("chain(4, " + what + ")", x.chain(4, what), want[1][what]);
            }
        });
        sentence(8, "NONE for others, and one that wasn't told", () -> {
            StarShells x = with("rate 3 0=1 to 1;", "chain 0 A 1 to B 1 light 2;chain 4 C 1 to D 1 light 3;");
            for (int far : FAR) {
                due("chain(" + far + ", 0)", x.chain(far, 0), NONE);
                due("chain(0, " + far + ")", x.chain(0, far), NONE);
            }
            due("chain(5, 0)", x.chain(5, 0), NONE);
            due("chain(0, 5)", x.chain(0, 5), NONE);
            due("chain(4, 5)", x.chain(4, 5), NONE);
            for (int what = 0; what < 5; what++) {
                due("chain(1, " + what + ")", x.chain(1, what), NONE);
                due("a rate alone", x.chain(3, what), NONE);
            }
            due("look(1)", x.look(1), true);
            due("not told yet", x.chain(0, 0), NONE);
            due("not told yet", x.chain(4, 4), NONE);
        });
    }

    private static void tables() {
        sentence(9, "SPAN of push (0), haze (1), the rate of a CHAIN (2 and its number) at a HEAT: LOW (high false), HIGH", () -> {
            StarShells x = with("push 0=1 to 2;haze 0=3 to 4;rate 0 0=5 to 6;rate 4 0=7 to 8;");
            int[] lows = {1, 3, 5, 0, 0, 0, 7};
            int[] highs = {2, 4, 6, 0, 0, 0, 8};
            for (int table = 0; table < 7; table++) {
                for (int heat : new int[] {0, 1, 998, 999}) {
                    due("law(" + table + ", " + heat + ", false)", x.law(table, heat, false), lows[table]);
                    due("law(" + table + ", " + heat + ", true)", x.law(table, heat, true), highs[table]);
                }
            }
        });
        sentence(9, "NONE for others", () -> {
            StarShells x = with("push 0=1 to 2;haze 0=3 to 4;rate 0 0=5 to 6;rate 4 0=7 to 8;");
            for (int far : FAR) {
                due("law(" + far + ", 0, false)", x.law(far, 0, false), NONE);
                due("law(" + far + ", 0, true)", x.law(far, 0, true), NONE);
                for (int table = 0; table < 7; table++) {
                    due("law(" + table + ", " + far + ", false)", x.law(table, far, false), NONE);
                }
            }
            due("law(7, 0, true)", x.law(7, 0, true), NONE);
            due("law(0, 1000, true)", x.law(0, 1000, true), NONE);
            due("law(3, 1000, true)", x.law(3, 1000, true), NONE);
        });
    }

    private static void span(StarShells x, int heat, int low, int high) {
        due("law(0, " + heat + ", false)", x.law(0, heat, false), low);
        due("law(0, " + heat + ", true)", x.law(0, heat, true), high);
    }

    /** A TABLE of 8 POINTS. */
    private static String eight(int table) {
        StringBuilder text = new StringBuilder(table == 0 ? "push " : table == 1 ? "haze " : "rate " + (table - 2) + " ");
        for (int point = 0; point < 8; point++) {
            int low = 100 * table + point;
            text.append(point == 0 ? "" : ",").append(10 + table + 9 * point).append('=').append(low).append("to")
                .append(low + 9);
        }
        return text.append(';').toString();
    }

    private static void spans() {
        sentence(9, "at a POINT its LOW and HIGH", () -> {
            StarShells x = with("push 0=5 to 9,1=9999 to 9999,2=0 to 0,500=3 to 4,998=7 to 8,999=0 to 9999;");
            int[][] points = {{0, 5, 9}, {1, 9999, 9999}, {2, 0, 0}, {500, 3, 4}, {998, 7, 8}, {999, 0, 9999}};
            for (int[] point : points) {
                span(x, point[0], point[1], point[2]);
            }
        });
        sentence(9, "between two the straight line between the LOWS, cut down, between the HIGHS, rounded up", () -> {
            StarShells x = with("push 10=0 to 0,20=7 to 7,30=0 to 0;");
            int[] lows = {0, 0, 1, 2, 2, 3, 4, 4, 5, 6, 7};
            int[] highs = {0, 1, 2, 3, 3, 4, 5, 5, 6, 7, 7};
            for (int gone = 0; gone <= 10; gone++) {
                span(x, 10 + gone, lows[gone], highs[gone]);
                span(x, 30 - gone, lows[gone], highs[gone]);
            }
            // Where the line is whole, nothing is cut or rounded.
            x = with("push 0=0 to 10,10=10 to 30;");
            for (int heat = 0; heat <= 10; heat++) {
                span(x, heat, heat, 10 + 2 * heat);
            }
            x = with("push 0=0 to 0,999=9999 to 9999;");
            span(x, 1, 10, 11);
            span(x, 500, 5004, 5005);
            span(x, 998, 9988, 9989);
            x = with("push 0=9999 to 9999,999=0 to 0;");
            span(x, 1, 9988, 9989);
            span(x, 998, 10, 11);
            x = with("push 0=0 to 9999,999=1 to 9998;");
            span(x, 1, 0, 9999);
            span(x, 998, 0, 9999);
            span(x, 999, 1, 9998);
        });
        sentence(9, "ahead of the first, behind the last POINT these", () -> {
            StarShells x = with("push 100=3 to 5,200=7 to 9;");
            for (int heat : new int[] {0, 1, 99, 100}) {
                span(x, heat, 3, 5);
            }
            for (int heat : new int[] {200, 201, 998, 999}) {
                span(x, heat, 7, 9);
            }
            span(x, 101, 3, 6);
            span(x, 199, 6, 9);
            x = with("push 0=3 to 5;");
            span(x, 0, 3, 5);
            span(x, 999, 3, 5);
            x = with("push 999=3 to 5;");
            span(x, 0, 3, 5);
            span(x, 999, 3, 5);
        });
        sentence(9, "POINTS: POINT {, POINT} (8 at most)", () -> {
            // Every TABLE has 8, at HEATS of its own: LOW is 100 and so on at the first, and rises by 1.
            StarShells x = with(eight(0) + eight(1) + eight(2), eight(3) + eight(4) + eight(5), eight(6));
            for (int table = 0; table < 7; table++) {
                for (int point = 0; point < 8; point++) {
                    int heat = 10 + table + 9 * point;
                    due("LOW at POINT " + point, x.law(table, heat, false), 100 * table + point);
                    due("HIGH at POINT " + point, x.law(table, heat, true), 100 * table + point + 9);
                    due("LOW ahead of it", x.law(table, heat - 1, false), 100 * table + Math.max(point - 1, 0));
                }
                due("LOW ahead of all", x.law(table, 0, false), 100 * table);
                due("HIGH behind all", x.law(table, 999, true), 100 * table + 16);
            }
            // Told again with fewer: nothing is left of the others.
            due("text()", tell(x, "push 500=7 to 7;haze 500=8 to 8,600=9 to 9;"), 4);
            for (int heat : new int[] {0, 10, 19, 73, 500, 999}) {
                span(x, heat, 7, 7);
            }
            due("haze", x.law(1, 11, false), 8);
            due("haze", x.law(1, 999, true), 9);
            due("a rate that stays", x.law(2, 12, false), 200);
        });
        sentence(9, "0 to 0 without a TABLE", () -> {
            StarShells x = with("kind A 1;", "push 0=3 to 5;");
            for (int table = 1; table < 7; table++) {
                due("law(" + table + ", 0, false)", x.law(table, 0, false), 0);
                due("law(" + table + ", 999, true)", x.law(table, 999, true), 0);
            }
            due("look(1)", x.look(1), true);
            span(x, 0, 0, 0);
            span(x, 999, 0, 0);
        });
    }
}
