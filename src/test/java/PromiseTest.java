/** Promise by promise: ordinary calls, the edges that the document names, and wrong arguments. */
public final class PromiseTest extends Calls {
    public static void main(String[] args) {
        aNewObject();
        tape();
        texts();
        faults();
        laterFaults();
        looks();
        laws();
        shells();
        boxes();
        through();
        moods();
        steps();
        stepLimits();
        mixing();
        events();
        handing();
        sheets();
        tones();
        seen();
        fits();
        images();
        abouts();
        finish();
    }

    // Promise 1
    private static void aNewObject() {
        StarShells x = new StarShells();
        for (int round = 0; round < 2; round++) {
            int[] want = {0, 0, 0, 0, 0, 0, 0, 0, 0, NONE, 100, 100, NONE};
            for (int what = 0; what < want.length; what++) {
                due("about(" + what + ") of a new one", x.about(what), want[what]);
            }
            due("about(20)", x.about(20), 1000);
            due("about(21)", x.about(21), 1000);
            due("weight(5)", x.weight(5), 1);
            due("chain(0, 0)", x.chain(0, 0), NONE);
            due("law(0, 0, true)", x.law(0, 0, true), 0);
            due("parts(0, 0, 0)", x.parts(0, 0, 0), NONE);
            // THE IMAGE of a new one is this: all that is done goes away.
            due("text()", tell(x, "kind F 5;" + IDENTITY), 1);
            shell(x, 0, 5);
            shell(x, 1, 5);
            x.rules(0, 5, 5);
            x.rules(1, 6, 6);
            x.seen(0, 0, 1, 2);
            x.steps(0, 2);
            due("back()", x.back(), 0);
        }
    }

    // Promises 2, 3
    private static void tape() {
        StarShells x = new StarShells();
        due("end(0)", x.end(0), 0);
        due("end(1)", x.end(1), NONE);
        due("end(-1)", x.end(-1), NONE);
        for (int n = 1; n <= 20; n++) {
            due("feed " + n, x.feed(0x20202020, 0x20202020, 0x20202020, 0x20202020, 0x20202020), 20 * n);
        }
        due("feed 21", x.feed(0, 0, 0, 0, 0), NONE);
        due("about(7)", x.about(7), 400);
        due("end(401)", x.end(401), NONE);
        due("end(381)", x.end(381), 381);
        due("feed above 400", x.feed(0, 0, 0, 0, 0), NONE);
        due("about(7)", x.about(7), 381);
        due("end(380)", x.end(380), 380);
        // "kind", " B 4", "2;ha", "ze 7", "=3 t"
        due("feed", x.feed(0x6b696e64, 0x20422034, 0x323b6861, 0x7a652037, 0x3d332074), 400);
        due("text() of 400 bytes", x.text(), NONE);
        due("fault(0)", x.fault(0), 1);
        due("fault(1)", x.fault(1), 399);
        x.feed(0x6b696e64, 0x20422034, 0x323b6861, 0x7a652037, 0x3d332074);
        due("feed", x.feed(0x6f39393b, -1, -1, -1, -1), 40);
        due("end(24)", x.end(24), 24);
        due("text()", x.text(), 1);
        due("weight(1)", x.weight(1), 42);
        due("law(1, 0, false)", x.law(1, 0, false), 3);
        due("law(1, 0, true)", x.law(1, 0, true), 99);
        due("the tape is empty", x.about(7), 0);
        x.feed(0x6b696e64, 0x20412032, 0x3b202020, -1, -1);
        due("end(9)", x.end(9), 9);
        due("end(9) again", x.end(9), 9);
        due("end(10)", x.end(10), NONE);
        due("text()", x.text(), 2);
        x.feed(0xff80ff80, 0, 0, 0, 0);
        due("text() of bytes above 127", x.text(), NONE);
        due("fault(1)", x.fault(1), 0);
    }

    // Promise 4
    private static void texts() {
        StarShells x = new StarShells();
        due("fault(0) ahead of any", x.fault(0), NONE);
        due("fault(1) ahead of any", x.fault(1), NONE);
        due("text() of nothing", x.text(), 1);
        due("fault(0)", x.fault(0), 0);
        due("fault(1)", x.fault(1), NONE);
        due("fault(2)", x.fault(2), NONE);
        due("fault(-1)", x.fault(-1), NONE);
        due("about(8)", x.about(8), 0);
        due("text() of blanks", tell(x, "  \n "), 2);
        due("text()", tell(x, "kind A 7;\nkind\nB\n007\n;haze0=1to2,9=3to4;"), 3);
        due("about(8)", x.about(8), 3);
        due("weight(1)", x.weight(1), 7);
        due("text() with a FAULT", tell(x, "kind A 8; kind B 0;"), NONE);
        due("nothing of it is told", x.weight(0), 7);
        due("fault(1)", x.fault(1), 17);
        due("fault(2)", x.fault(2), NONE);
        due("fault(-1)", x.fault(-1), NONE);
        due("about(8)", x.about(8), 3);
        due("about(0)", x.about(0), 3);
        for (int time = 4; time <= 30; time++) {
            due("text()", tell(x, "kind C " + time + ";"), time);
        }
        due("a FAULT at 29", x.fault(0), 0);
        put(x, "nonsense");
        due("text() at 30", x.text(), NONE);
        due("it wasn't read", x.fault(0), 0);
        due("the tape stays", x.about(7), 8);
        due("weight(2)", x.weight(2), 30);
        due("look(30)", x.look(30), true);
        due("look(31)", x.look(31), false);
        x.back();
        due("the tape stays", x.about(7), 8);
        due("text()", x.text(), NONE);
        due("fault(0)", x.fault(0), 1);
    }

    // Promise 5
    private static void faults() {
        fault("kind", 1, 4);
        fault("kind  \n", 1, 7);
        fault("kind A", 1, 6);
        fault("kind A 1", 1, 8);
        fault("kind A 1 2;", 1, 9);
        fault("kind A ;", 1, 7);
        fault("kind 1 1;", 1, 5);
        fault("kind G 1;", 1, 5);
        fault("kind a 1;", 1, 5);
        fault("kind AB 1;", 1, 5);
        for (char last : new char[] {'a', 'z', 'A', 'Z'}) {
            fault("kind A" + last + " 1;", 1, 5);
        }
        for (char none : new char[] {'`', '{', '@', '[', '/', ':', 0, 255}) {
            fault("kind A" + none + " 1;", 1, 6);
        }
        fault("kindA 1;", 1, 0);
        fault("Kind A 1;", 1, 0);
        fault("ki nd A 1;", 1, 0);
        fault("kind A 1;;", 1, 9);
        fault("kind A 1;.", 1, 9);
        fault("kind A 1;\r", 1, 9);
        fault("\tkind A 1;", 1, 0);
        fault("kind A 1#;", 1, 8);
        fault("A", 1, 0);
        fault("7", 1, 0);
        fault("=", 1, 0);
        fault(" " + (char) 233, 1, 1);
        fault("kind F1;", 0, 0);
        fault("kind A 99;", 0, 0);
        fault("kind A 0000000000000000000000000099;", 0, 0);
        fault("kind A 0;", 2, 7);
        fault("kind A 100;", 2, 7);
        fault("kind A 4294967297;", 2, 7);
        fault("kind A 18446744073709551617;", 2, 7);
        fault("kind A 1;kind A 100;", 4, 14);
        fault("kind A 1;kind B 1;kind A 1;", 4, 23);
        fault("chain 0 A 9 to B 9 light 0;", 0, 0);
        fault("chain 4 A 9 to F 9 light 999;", 0, 0);
        fault("chain A", 1, 6);
        fault("chain 5 A 9 to B 9 light 0;", 2, 6);
        fault("chain 0 G", 1, 8);
        fault("chain 0 7 to B 7 light 1;", 1, 8);
        fault("chain 0 A 7 to 7 light 1;", 1, 15);
        fault("chain 0 A 0 to B 9 light 0;", 2, 10);
        fault("chain 0 A 10 to B 9 light 0;", 2, 10);
        fault("chain 0 A 1 light", 1, 12);
        fault("chain 0 A 1 to A 0", 3, 15);
        fault("chain 0 A 1 to H 0", 1, 15);
        fault("chain 0 A 1 to B 0", 2, 17);
        fault("chain 0 A 1 to B 10", 2, 17);
        fault("chain 0 A 1 to B 1 to", 1, 19);
        fault("chain 0 A 1 to B 1 light 1000", 2, 25);
        fault("chain 0 A 1 to B 1 light 9", 1, 26);
        fault("chain 0 A 1 to B 1 light 0;chain 0", 4, 33);
        fault("chain 0 A 1 to B 1 light 0;chain 5", 2, 33);
        fault("chain 0 A 1 to B 1 light 0;chain 1", 1, 34);
        fault("kind A 1;chain 0 A 1 to B 1 light 0;", 0, 0);
    }

    private static void laterFaults() {
        fault("push ;", 1, 5);
        fault("push 0 0", 1, 7);
        fault("push 0=0,", 1, 8);
        fault("push 0=0 to 0", 1, 13);
        fault("push 0=0 to 0,", 1, 14);
        fault("push 0=0 to 0,;", 1, 14);
        fault("push 0=0 to 0 1=0 to 0;", 1, 14);
        fault("push 999=9999 to 9999;", 0, 0);
        fault("push 1000=0 to 0;", 2, 5);
        fault("push 0=10000 to 0;", 2, 7);
        fault("push 0=0 to 10000;", 2, 12);
        fault("push 0=7 to 6;", 2, 12);
        fault("push 0=7 to 7;", 0, 0);
        fault("push 3=0 to 0,3=0 to 0;", 2, 14);
        fault("push 3=0 to 0,2=0 to 0;", 2, 14);
        fault("push 999=0 to 0,1000=0 to 0;", 2, 16);
        fault("push 3=0 to 0,4=0 to 0;", 0, 0);
        fault("push 0=0 to 0;haze 0=0 to 0;rate 0 0=0 to 0;rate 4 0=0 to 0;", 0, 0);
        fault("push 0=0 to 0;push 0=0 to 0;", 4, 14);
        fault("haze 0=0 to 0;haze 0=0 to 0;", 4, 14);
        fault("rate 3 0=0 to 0;rate 3 0=0 to 0;", 4, 21);
        fault("rate 3 0=0 to 0;rate 5 0=0 to 0;", 2, 21);
        fault("rate 5 0=0 to 0;", 2, 5);
        fault("rate push", 1, 5);
        String eight = "push 0=0 to 0,1=0 to 0,2=0 to 0,3=0 to 0,4=0 to 0,5=0 to 0,6=0 to 0,7=0 to 0";
        fault(eight + ";", 0, 0);
        fault(eight + ",8=0 to 0;", 5, 77);
        fault(eight + ",8", 5, 77);
        fault(eight + ",7=0 to 0;", 2, 77);
        fault(eight + ",1000=0 to 0;", 2, 77);
        fault(eight + ",", 1, 77);
        fault(eight + ",;", 1, 77);
        fault("chain 0 A 2 to B 1 light 1;", 6, 27);
        fault("chain 0 A 2 to B 1 light 1; \n", 6, 29);
        fault("chain 0 A 2 to B 1 light 1;kind B 2;", 0, 0);
        fault("kind A 3;kind B 2;chain 0 A 2 to B 3 light 1;", 0, 0);
        fault("chain 0 A 2 to B 1 light 1;x", 1, 27);
        // Every KIND, CHAIN and TABLE in one text.
        fault("kind A 1;kind B 1;kind C 1;kind D 1;kind E 1;kind F 1;"
            + "chain 0 A 1 to B 1 light 1;chain 1 B 1 to C 1 light 1;chain 2 C 1 to D 1 light 1;"
            + "chain 3 D 1 to E 1 light 1;chain 4 E 1 to F 1 light 1;push 0=0 to 0;haze 0=0 to 0;"
            + "rate 0 0=0 to 0;rate 1 0=0 to 0;rate 2 0=0 to 0;rate 3 0=0 to 0;rate 4 0=0 to 0;", 0, 0);
        StarShells x = new StarShells();
        put(x, "kind A 1999999");
        due("end(8)", x.end(8), 8);
        due("bytes that were cut off aren't read", x.text(), NONE);
        due("fault(1)", x.fault(1), 8);
        put(x, "kindly");
        due("end(4)", x.end(4), 4);
        due("text()", x.text(), NONE);
        due("fault(1)", x.fault(1), 4);
        x = with("chain 2 A 1 to B 1 light 1;");
        due("a KIND makes an older CHAIN unequal", tell(x, "kind B 2;"), NONE);
        due("fault(0)", x.fault(0), 6);
        due("fault(1)", x.fault(1), 9);
        due("both do", tell(x, "kind B 2;kind A 2;"), 2);
        x.look(0);
        due("the latest laws are meant, not those of THE LOOK", tell(x, "kind B 1;"), NONE);
        due("fault(0)", x.fault(0), 6);
        due("THE LOOK stays", x.about(1), 0);
        due("a new CHAIN of that number", tell(x, "kind B 1;chain 2 A 1 to B 2 light 1;"), 3);
        due("THE LOOK is the latest", x.about(1), 3);
    }

    // Promise 6
    private static void looks() {
        StarShells x = with("kind A 2;" + IDENTITY, "kind B 3;", "kind A 5;push 0=4 to 9;");
        int[][] weights = {{1, 1}, {2, 1}, {2, 3}, {5, 3}};
        int[] push = {0, 7, 7, 4};
        for (int time = 3; time >= 0; time--) {
            due("look(" + time + ")", x.look(time), true);
            due("about(1)", x.about(1), time);
            due("about(0)", x.about(0), 3);
            due("weight(0)", x.weight(0), weights[time][0]);
            due("weight(1)", x.weight(1), weights[time][1]);
            due("law(0, 7, false)", x.law(0, 7, false), push[time]);
        }
        due("look(-1)", x.look(-1), false);
        due("look(4)", x.look(4), false);
        due("about(1)", x.about(1), 0);
        due("about(8) is of the latest text", x.about(8), 2);
        tell(x, "");
        due("about(1)", x.about(1), 4);
        due("weight(0)", x.weight(0), 5);
    }

    // Promises 7, 8, 9
    private static void laws() {
        StarShells x = with("kind F 99;kind C 33;chain 3 F 1 to C 3 light 999;"
            + "push 0=10 to 20,3=11 to 18,10=0 to 5;rate 3 5=7 to 8;");
        int[] weights = {1, 1, 33, 1, 1, 99};
        for (int kind = 0; kind < 6; kind++) {
            due("weight(" + kind + ")", x.weight(kind), weights[kind]);
        }
        due("weight(-1)", x.weight(-1), NONE);
        due("weight(6)", x.weight(6), NONE);
        int[] chain = {5, 1, 2, 3, 999};
        for (int what = 0; what < 5; what++) {
            due("chain(3, " + what + ")", x.chain(3, what), chain[what]);
            due("chain(2, " + what + ")", x.chain(2, what), NONE);
        }
        due("chain(3, 5)", x.chain(3, 5), NONE);
        due("chain(3, -1)", x.chain(3, -1), NONE);
        due("chain(5, 0)", x.chain(5, 0), NONE);
        due("chain(-1, 0)", x.chain(-1, 0), NONE);
        int[][] push = {{0, 10, 20}, {1, 10, 20}, {2, 10, 19}, {3, 11, 18}, {4, 9, 17}, {9, 1, 7}, {10, 0, 5},
            {11, 0, 5}, {999, 0, 5}};
        for (int[] row : push) {
            due("law(0, " + row[0] + ", false)", x.law(0, row[0], false), row[1]);
            due("law(0, " + row[0] + ", true)", x.law(0, row[0], true), row[2]);
        }
        for (int heat = 0; heat < 1000; heat += 333) {
            due("law(5, ..)", x.law(5, heat, false), 7);
            due("law(5, ..)", x.law(5, heat, true), 8);
            due("law(1, ..)", x.law(1, heat, true), 0);
            due("law(6, ..)", x.law(6, heat, true), 0);
        }
        due("law(0, -1, ..)", x.law(0, -1, false), NONE);
        due("law(0, 1000, ..)", x.law(0, 1000, false), NONE);
        due("law(-1, 0, ..)", x.law(-1, 0, false), NONE);
        due("law(7, 0, ..)", x.law(7, 0, false), NONE);
        due("told again", tell(x, "rate 3 9=1 to 2;chain 3 F 1 to C 3 light 0;"), 2);
        due("law(5, 5, false)", x.law(5, 5, false), 1);
        due("chain(3, 4)", x.chain(3, 4), 0);
    }

    // Promises 10 to 14
    private static void shells() {
        StarShells x = with("kind A 2;kind B 3;");
        for (int shell = 0; shell < 16; shell++) {
            due("shell(0)", x.shell(0), shell);
        }
        due("shell(0) of 16", x.shell(0), NONE);
        due("shell(1)", x.shell(1), 0);
        due("shell(2)", x.shell(2), NONE);
        due("shell(-1)", x.shell(-1), NONE);
        due("about(2)", x.about(2), 16);
        due("about(3)", x.about(3), 1);
        due("fill", x.fill(1, 0, 5, 100000), true);
        due("fill", x.fill(1, 0, 5, 100001), false);
        due("fill", x.fill(1, 0, 5, -1), false);
        due("fill", x.fill(1, 1, 5, 1), false);
        due("fill", x.fill(1, -1, 5, 1), false);
        due("fill", x.fill(1, 0, 6, 1), false);
        due("fill", x.fill(1, 0, -1, 1), false);
        due("fill", x.fill(2, 0, 0, 1), false);
        due("fill", x.fill(-1, 0, 0, 1), false);
        parts(x, 1, 0, 0, 0, 0, 0, 0, 100000, NONE);
        due("parts(1, 0, -1)", x.parts(1, 0, -1), NONE);
        due("parts(1, 1, 0)", x.parts(1, 1, 0), NONE);
        due("parts(2, 0, 0)", x.parts(2, 0, 0), NONE);
        due("rules", x.rules(1, 0, 0), false);
        due("rules", x.rules(1, 100001, 0), false);
        due("rules", x.rules(1, 7, -1), false);
        due("rules", x.rules(1, 7, 1000001), false);
        due("rules", x.rules(2, 7, 7), false);
        due("rules", x.rules(-1, 7, 7), false);
        due("about(11)", x.about(11), 100);
        due("about(21)", x.about(21), 1000);
        due("rules", x.rules(1, 100000, 0), true);
        due("rules", x.rules(0, 1, 1000000), true);
        due("about(11)", x.about(11), 100000);
        due("about(21)", x.about(21), 0);
        due("about(10)", x.about(10), 1);
        due("about(20)", x.about(20), 1000000);
        x = with("kind A 2;kind B 3;");
        shell(x, 0, 5, 1);
        shell(x, 0, 1, 5);
        shell(x, 0, 0, 1);
        x.rules(0, 2, 1000);
        int[] weights = {13, 17, 3};
        int[] needs = {13, 5, 0};
        for (int shell = 0; shell < 3; shell++) {
            due("of(0, " + shell + ", 0)", x.of(0, shell, 0), weights[shell]);
            due("of(0, " + shell + ", 1)", x.of(0, shell, 1), needs[shell]);
        }
        due("of(0, 3, 0)", x.of(0, 3, 0), NONE);
        due("of(0, -1, 0)", x.of(0, -1, 0), NONE);
        due("of(1, 0, 0)", x.of(1, 0, 0), NONE);
        due("of(2, 0, 0)", x.of(2, 0, 0), NONE);
        due("of(0, 0, 6)", x.of(0, 0, 6), NONE);
        due("of(0, 0, -1)", x.of(0, 0, -1), NONE);
        x = with("kind A 99;kind B 99;kind C 99;kind D 99;kind E 99;kind F 99;");
        for (int shell = 0; shell < 16; shell++) {
            shell(x, 0, 100000, 100000, 100000, 100000, 100000, 100000);
        }
        x.rules(0, 1, 0);
        due("the greatest WEIGHT", x.of(0, 0, 0), 59400000);
        due("the greatest NEED", x.of(0, 0, 1), 59400000 * 15 + 29700000);
        due("no BOX", x.of(0, 0, 2), 0);
    }

    // Promises 14, 15, 17
    private static void boxes() {
        StarShells x = with("push 0=0 to 0,10=10 to 10,20=0 to 0,100=0 to 0,101=5 to 5;");
        shell(x, 0, 10);
        x.rules(0, 1, 1000);
        int[][] want = {{5, 5}, {15, 15}, {101, 999}};
        due("of(0, 0, 1)", x.of(0, 0, 1), 5);
        due("of(0, 0, 2)", x.of(0, 0, 2), 3);
        due("of(0, 0, 3)", x.of(0, 0, 3), 5);
        due("of(0, 0, 4)", x.of(0, 0, 4), 5);
        for (int k = 0; k < 3; k++) {
            due("box(0, 0, " + k + ", false)", x.box(0, 0, k, false), want[k][0]);
            due("box(0, 0, " + k + ", true)", x.box(0, 0, k, true), want[k][1]);
        }
        due("box(0, 0, 3, ..)", x.box(0, 0, 3, true), NONE);
        due("box(0, 0, -1, ..)", x.box(0, 0, -1, true), NONE);
        due("box(0, 1, 0, ..)", x.box(0, 1, 0, true), NONE);
        due("box(2, 0, 0, ..)", x.box(2, 0, 0, true), NONE);
        due("settled(0)", x.settled(0), 1);
        due("settled(1)", x.settled(1), 0);
        due("settled(2)", x.settled(2), NONE);
        due("settled(-1)", x.settled(-1), NONE);
        x.fill(0, 0, 0, 0);
        due("NEED 0", x.of(0, 0, 2), 2);
        due("box(0, 0, 0, true)", x.box(0, 0, 0, true), 0);
        due("box(0, 0, 1, false)", x.box(0, 0, 1, false), 20);
        due("box(0, 0, 1, true)", x.box(0, 0, 1, true), 100);
        x.fill(0, 0, 0, 20);
        due("NEED 10", x.settled(0), 2);
        due("of(0, 0, 3)", x.of(0, 0, 3), 10);
        x.fill(0, 0, 0, 22);
        due("NEED 11", x.settled(0), 0);
        due("of(0, 0, 2)", x.of(0, 0, 2), 0);
        due("of(0, 0, 3)", x.of(0, 0, 3), NONE);
        due("of(0, 0, 4)", x.of(0, 0, 4), NONE);
        due("box(0, 0, 0, ..)", x.box(0, 0, 0, false), NONE);
        // One SHELL without a BOX, the other one has its own all the same.
        shell(x, 0, 2);
        due("settled(0)", x.settled(0), 0);
        due("of(0, 1, 3)", x.of(0, 1, 3), 1);
        // A run across POINTS is one BOX.
        x = with("push 5=0 to 9,7=3 to 4,9=4 to 20,12=5 to 5;");
        shell(x, 0, 8);
        x.rules(0, 1, 1000);
        due("of(0, 0, 2)", x.of(0, 0, 2), 1);
        due("of(0, 0, 3)", x.of(0, 0, 3), 0);
        due("of(0, 0, 4)", x.of(0, 0, 4), 11);
        // Slopes of one, and SHELLS with BOXES of their own.
        x = with("push 0=0 to 0,10=1 to 1;");
        shell(x, 0, 1);
        shell(x, 0, 1);
        x.rules(0, 1, 1000);
        due("box(0, 1, 0, false)", x.box(0, 1, 0, false), 0);
        due("box(0, 1, 0, true)", x.box(0, 1, 0, true), 9);
        due("box(0, 0, 0, false)", x.box(0, 0, 0, false), 1);
        due("box(0, 0, 0, true)", x.box(0, 0, 0, true), 999);
        x = with("push 5=0 to 0,12=7 to 7,19=0 to 0,20=9 to 9;");
        shell(x, 1, 8);
        shell(x, 1, 5);
        x.rules(1, 1, 1000);
        due("box(1, 1, 1, false)", x.box(1, 1, 1, false), 17);
        due("box(1, 0, 0, false)", x.box(1, 0, 0, false), 20);
        x.fill(1, 1, 0, 4);
        due("box(1, 1, 0, false)", x.box(1, 1, 0, false), 7);
        due("box(1, 1, 2, false)", x.box(1, 1, 2, false), NONE);
        // Without push only a NEED of 0 is borne, at any HEAT.
        x = with("push 5=0 to 9,7=3 to 4,9=4 to 20,12=5 to 5;");
        shell(x, 0, 8);
        x.rules(0, 1, 1000);
        x.look(0);
        due("settled(0)", x.settled(0), 0);
        x.fill(0, 0, 0, 1);
        due("settled(0)", x.settled(0), 2);
        due("of(0, 0, 3)", x.of(0, 0, 3), 0);
        due("of(0, 0, 4)", x.of(0, 0, 4), 999);
    }

    // Promise 16
    private static void through() {
        StarShells x = with("push 0=0 to 0,10=10 to 10,30=10 to 10,31=99 to 99;kind B 2;"
            + "chain 1 A 2 to B 1 light 7;chain 4 B 1 to A 2 light 100;"
            + "rate 1 10=8 to 9,20=2 to 20,30=5 to 6;rate 0 0=9 to 9;");
        shell(x, 0, 14);
        shell(x, 0, 3);
        x.rules(0, 1, 1000);
        due("NEED", x.of(0, 0, 1), 10);
        due("HEATS from", x.of(0, 0, 3), 10);
        due("to", x.of(0, 0, 4), 30);
        due("of(0, 1, 3)", x.of(0, 1, 3), 1);
        // Parts for 7 TIMES, rates from 2 to 20; above, 1 TIME by its parts. CHAIN 4 has no rate.
        due("through(0, 0, false)", x.through(0, 0, false), 14);
        due("through(0, 0, true)", x.through(0, 0, true), 49);
        due("through(0, 1, false)", x.through(0, 1, false), 21);
        due("through(0, 1, true)", x.through(0, 1, true), 56);
        due("through(0, 2, true)", x.through(0, 2, true), NONE);
        due("through(0, -1, true)", x.through(0, -1, true), NONE);
        due("through(1, 0, true)", x.through(1, 0, true), NONE);
        due("through(2, 0, true)", x.through(2, 0, true), NONE);
        // The extremes may lie at the ends of the BOX, too.
        tell(x, "rate 1 10=1 to 6,20=2 to 2,30=3 to 3;");
        due("through(0, 0, false)", x.through(0, 0, false), 7);
        due("through(0, 0, true)", x.through(0, 0, true), 42);
        tell(x, "rate 1 10=5 to 5,20=3 to 4,30=1 to 6;");
        due("through(0, 0, false)", x.through(0, 0, false), 7);
        due("through(0, 0, true)", x.through(0, 0, true), 42);
        // A TABLE with fewer POINTS than the one ahead of it: nothing of that one is left.
        tell(x, "rate 1 12=2 to 3;");
        due("through(0, 0, false)", x.through(0, 0, false), 14);
        due("through(0, 0, true)", x.through(0, 0, true), 21);
        tell(x, "rate 1 0=0 to 0,100=20 to 20;");
        due("through(0, 0, false)", x.through(0, 0, false), 14);
        due("through(0, 0, true)", x.through(0, 0, true), 42);
        // Without a BOX the HEATS are 0 to 0.
        x.rules(0, 100000, 1000);
        tell(x, "push 0=5 to 9;rate 1 0=3 to 4,1=0 to 99;");
        due("of(0, 0, 2)", x.of(0, 0, 2), 0);
        due("through(0, 0, false)", x.through(0, 0, false), 21);
        due("through(0, 0, true)", x.through(0, 0, true), 28);
        // What is led through doesn't ask whether the second KIND has room.
        x.fill(0, 0, 1, 100000);
        due("through(0, 0, true)", x.through(0, 0, true), 28);
        x = with(WIDE + "chain 0 A 1 to B 1 light 999;chain 1 A 1 to B 1 light 999;chain 2 A 1 to B 1 light 999;"
            + "chain 3 A 1 to B 1 light 999;chain 4 A 1 to B 1 light 999;",
            "rate 0 0=9999 to 9999;rate 1 0=9999 to 9999;rate 2 0=9999 to 9999;rate 3 0=9999 to 9999;"
            + "rate 4 0=9999 to 9999;haze 0=9999 to 9999;");
        for (int shell = 0; shell < 16; shell++) {
            shell(x, 0, 100000);
        }
        due("the most light", x.through(0, 15, true), 799120080L);
        x.rules(0, 1, 1000000);
        due("the greatest BAR", x.of(0, 15, 5), 1);
    }

    // Promise 14: CALM, CHURNED, OPEN
    private static void moods() {
        StarShells x = with(WIDE + "chain 0 A 1 to B 1 light 10;rate 0 0=5 to 7;haze 0=1000 to 2000;");
        shell(x, 0, 100);
        int[][] limits = {{0, 1}, {49, 1}, {50, 2}, {139, 2}, {140, 0}, {141, 0}};
        for (int[] row : limits) {
            x.rules(0, 100, row[0]);
            due("of(0, 0, 5) by LIMIT " + row[0], x.of(0, 0, 5), row[1]);
        }
        tell(x, "haze 0=999 to 1999;");
        x.rules(0, 100, 49);
        due("50 * 999 / 1000, cut", x.of(0, 0, 5), 2);
        x.rules(0, 100, 139);
        due("70 * 1999 / 1000, cut", x.of(0, 0, 5), 0);
        x.rules(0, 100, 0);
        tell(x, "haze 0=0 to 0;");
        due("no haze", x.of(0, 0, 5), 0);
    }

    // Promise 18
    private static void steps() {
        StarShells x = with(WIDE + "kind B 2;chain 0 A 2 to B 1 light 5;rate 0 0=3 to 4;");
        due("steps(0, 1) without SHELLS", x.steps(0, 1), 0);
        shell(x, 0, 7);
        due("steps(0, 0)", x.steps(0, 0), NONE);
        due("steps(0, 51)", x.steps(0, 51), NONE);
        due("steps(0, -1)", x.steps(0, -1), NONE);
        due("steps(2, 1)", x.steps(2, 1), NONE);
        due("steps(-1, 1)", x.steps(-1, 1), NONE);
        due("steps(0, 1)", x.steps(0, 1), 1);
        parts(x, 0, 0, 1, 3);
        due("light(0, 0, 0)", x.light(0, 0, 0), 15);
        due("light(0, 0, 1)", x.light(0, 0, 1), 0);
        due("light(0, 0, 5)", x.light(0, 0, 5), NONE);
        due("light(0, 0, -1)", x.light(0, 0, -1), NONE);
        due("light(0, 1, 0)", x.light(0, 1, 0), NONE);
        due("light(1, 0, 0)", x.light(1, 0, 0), NONE);
        due("light(2, 0, 0)", x.light(2, 0, 0), NONE);
        due("steps(0, 50)", x.steps(0, 50), 50);
        parts(x, 0, 0, 1, 3);
        due("about(4)", x.about(4), 51);
        // CHAINS burn one behind the other, by the parts there are by then.
        x = with(WIDE + "chain 0 A 1 to B 1 light 1;chain 1 B 1 to C 1 light 100;rate 0 0=6 to 9;rate 1 0=9 to 9;");
        shell(x, 0, 8, 1);
        due("through", x.through(0, 0, true), 108);
        due("steps(0, 1)", x.steps(0, 1), 1);
        parts(x, 0, 0, 2, 0, 7);
        due("light(0, 0, 0)", x.light(0, 0, 0), 6);
        due("light(0, 0, 1)", x.light(0, 0, 1), 700);
        // TIMES are fewer, if the second KIND would be above 100000.
        x = with(WIDE + "kind A 3;chain 0 A 1 to B 3 light 2;rate 0 0=50 to 50;");
        shell(x, 0, 40, 99990);
        due("steps(0, 1)", x.steps(0, 1), 1);
        parts(x, 0, 0, 37, 99999);
        due("light(0, 0, 0)", x.light(0, 0, 0), 6);
        due("steps(0, 1)", x.steps(0, 1), 1);
        parts(x, 0, 0, 37, 99999);
        // The rate's LOW at the lowest HEAT of the first BOX.
        x = with("push 0=0 to 0,10=10 to 10,20=10 to 10,21=0 to 0;chain 0 A 1 to B 1 light 1;"
            + "rate 0 9=50 to 50,10=2 to 9,11=1 to 1;");
        shell(x, 0, 20);
        x.rules(0, 1, 1000);
        due("HEAT", x.of(0, 0, 3), 10);
        due("steps(0, 1)", x.steps(0, 1), 1);
        parts(x, 0, 0, 18, 2);
    }

    private static void stepLimits() {
        StarShells x = with(WIDE);
        shell(x, 0, 1);
        shell(x, 1, 1);
        for (int i = 0; i < 5; i++) {
            due("steps(0, 50)", x.steps(0, 50), 50);
        }
        due("steps(1, 45)", x.steps(1, 45), 45);
        due("steps(0, 50)", x.steps(0, 50), 5);
        due("steps(1, 1)", x.steps(1, 1), 0);
        due("about(4)", x.about(4), 300);
        // A STAR that is no more SETTLED makes no more STEPS: its WEIGHT stays, but it is mixed.
        x = with("push 0=0 to 0,1=15 to 15,3=25 to 35;chain 0 A 1 to B 1 light 1;rate 0 0=1 to 1;"
            + "haze 0=9999 to 9999;");
        shell(x, 0, 10);
        shell(x, 0, 30);
        x.rules(0, 1, 0);
        due("settled(0)", x.settled(0), 2);
        due("steps(0, 5)", x.steps(0, 5), 1);
        due("settled(0)", x.settled(0), 0);
        due("of(0, 1, 1)", x.of(0, 1, 1), 10);
        due("about(4)", x.about(4), 1);
        // The most light of one place is more than an int holds.
        x = with(WIDE + "chain 0 A 1 to B 1 light 999;rate 0 0=9999 to 9999;");
        shell(x, 1);
        for (int i = 0; i < 25; i++) {
            x.fill(1, 0, 0, 100000);
            x.fill(1, 0, 1, 0);
            x.steps(1, 10);
        }
        due("light(1, 0, 0)", x.light(1, 0, 0), 2497250250L);
    }

    // Promise 18, mixing
    private static void mixing() {
        String text = WIDE + "haze 0=1000 to 1000;chain 0 A 1 to B 1 light 10;rate 0 0=1 to 1;";
        StarShells x = with(text);
        int[][] ahead = {{3, 0, 7}, {0, 0, 0}, {4, 0, 4}, {0, 9, 0}};
        for (int[] row : ahead) {
            shell(x, 0, row);
        }
        // 10, 10, 20 and 20 go through: above 10 there are the upper two alone.
        x.rules(0, 100, 10);
        due("of(0, 1, 5)", x.of(0, 1, 5), 0);
        due("of(0, 2, 5)", x.of(0, 2, 5), 1);
        due("steps(0, 1)", x.steps(0, 1), 1);
        parts(x, 0, 0, 2, 1, 7);
        parts(x, 0, 1, 0, 0, 0);
        parts(x, 0, 2, 2, 5, 2);
        parts(x, 0, 3, 1, 5, 2);
        // Now all are CHURNED ahead of the STEP: A 5 - 3 = 2, B 11 + 3 = 14, C 11.
        x.rules(0, 100, 9);
        due("steps(0, 1)", x.steps(0, 1), 1);
        parts(x, 0, 0, 1, 4, 3);
        parts(x, 0, 1, 1, 4, 3);
        parts(x, 0, 2, 0, 3, 3);
        parts(x, 0, 3, 0, 3, 2);
        // The middle is CALM: it isn't mixed with those above.
        x = with(text);
        shell(x, 0, 0, 0, 7);
        shell(x, 0, 5);
        shell(x, 0, 1);
        x.rules(0, 100, 9);
        due("steps(0, 1)", x.steps(0, 1), 1);
        parts(x, 0, 0, 0, 0, 7);
        parts(x, 0, 1, 2, 1, 0);
        parts(x, 0, 2, 2, 1, 0);
        // All of 16 are, and the other STAR has fewer.
        x = with(text);
        for (int shell = 0; shell < 16; shell++) {
            shell(x, 0, 1, shell == 15 ? 9 : 0);
        }
        shell(x, 1, 1, 5);
        shell(x, 1, 1, 2);
        x.rules(0, 100, 0);
        x.rules(1, 100, 0);
        due("steps(0, 1)", x.steps(0, 1), 1);
        for (int shell = 0; shell < 16; shell++) {
            parts(x, 0, shell, 0, shell < 9 ? 2 : 1);
        }
        x.fill(0, 0, 0, 1);
        due("of(0, 15, 5)", x.of(0, 15, 5), 1);
        due("steps(1, 1)", x.steps(1, 1), 1);
        parts(x, 1, 0, 0, 5);
        parts(x, 1, 1, 0, 4);
        // OPEN ones aren't mixed.
        x = with(text, "haze 0=1000 to 3000;");
        shell(x, 0, 9);
        shell(x, 0, 1);
        x.rules(0, 100, 25);
        due("of(0, 0, 5)", x.of(0, 0, 5), 2);
        due("of(0, 1, 5)", x.of(0, 1, 5), 2);
        due("steps(0, 1)", x.steps(0, 1), 1);
        parts(x, 0, 0, 8, 1);
        parts(x, 0, 1, 0, 1);
        // HEATS 80, 60, 35, 16 and 6: CALM SHELLS part those that are CHURNED.
        x = with("push 0=0 to 0,999=999 to 999;haze 9=0 to 0,10=9999 to 9999,30=9999 to 9999,31=0 to 0,"
            + "50=0 to 0,51=9999 to 9999;chain 0 F 1 to E 1 light 10;rate 0 0=1 to 1;");
        int[] weights = {20, 20, 30, 8, 12};
        for (int weight : weights) {
            shell(x, 0, weight);
        }
        x.fill(0, 0, 5, 1);
        x.rules(0, 1, 1);
        int[] moods = {1, 1, 0, 1, 0};
        for (int shell = 0; shell < 5; shell++) {
            due("of(0, " + shell + ", 5)", x.of(0, shell, 5), moods[shell]);
        }
        x.fill(0, 0, 0, 25);
        due("steps(0, 1)", x.steps(0, 1), 1);
        int[] a = {23, 22, 30, 8, 12};
        for (int shell = 0; shell < 5; shell++) {
            parts(x, 0, shell, a[shell]);
        }
        parts(x, 0, 0, 23, 0, 0, 0, 1, 0);
        parts(x, 0, 1, 22, 0, 0, 0, 0, 0);
    }

    // Promise 19
    private static void events() {
        StarShells x = with(WIDE + "kind B 2;chain 0 A 2 to B 1 light 5;rate 0 0=3 to 4;", "rate 0 0=0 to 0;");
        x.look(1);
        event(x, 0);
        shell(x, 1, 7);
        x.steps(1, 1);
        due("about(5)", x.about(5), 2);
        event(x, 0, 0, 1, 0, 0, 0);
        event(x, 1, 0, 1, 0, 0, 1);
        event(x, 2);
        event(x, -1);
        due("event(0, 5)", x.event(0, 5), NONE);
        due("event(0, -1)", x.event(0, -1), NONE);
        x.steps(1, 1);
        due("nothing burns", x.about(5), 2);
        x.fill(1, 0, 0, 10);
        shell(x, 0, 100);
        x.steps(0, 1);
        event(x, 2, 2, 0, 0, 0, 1);
        // Its own STEP ahead made none, whatever the other STAR made.
        x.steps(1, 1);
        event(x, 3, 3, 1, 0, 0, 1);
        x.steps(1, 1);
        event(x, 4, 4, 1, 0, 0, 0);
        due("still lit", x.about(5), 5);
        x.steps(0, 2);
        due("still lit", x.about(5), 5);
        x.look(2);
        x.steps(0, 1);
        x.look(1);
        x.steps(0, 1);
        event(x, 5, 8, 0, 0, 0, 1);
        // A CHAIN that isn't told in a STEP made no light in it.
        x.look(0);
        x.rules(0, 100000, 0);
        due("steps(0, 1)", x.steps(0, 1), 1);
        x.look(1);
        x.steps(0, 1);
        event(x, 6, 10, 0, 0, 0, 1);
        // A CHAIN without light burns out, but is never lit; one CHAIN may burn out by another one.
        x = with(WIDE + "chain 0 A 1 to B 1 light 0;chain 3 A 5 to C 5 light 9;chain 4 B 9 to C 9 light 1;"
            + "rate 0 0=4 to 4;rate 4 0=1 to 1;");
        shell(x, 0, 8, 20);
        x.steps(0, 1);
        due("about(5)", x.about(5), 2);
        event(x, 0, 0, 0, 0, 3, 0);
        event(x, 1, 0, 0, 0, 4, 1);
        x.steps(0, 1);
        due("about(5)", x.about(5), 3);
        event(x, 2, 1, 0, 0, 0, 0);
        parts(x, 0, 0, 0, 10, 18);
        event(x, 3);
        // As many parts as its number: not burnt out yet.
        x = with(WIDE + "chain 0 A 3 to B 3 light 1;rate 0 0=1 to 1;");
        shell(x, 0, 6);
        x.steps(0, 1);
        due("about(5)", x.about(5), 1);
        event(x, 0, 0, 0, 0, 0, 1);
        x.steps(0, 1);
        due("about(5)", x.about(5), 2);
        event(x, 1, 1, 0, 0, 0, 0);
    }

    // Promise 19, the limit
    private static void manyEvents() {
        StarShells x = with(WIDE + "chain 0 A 1 to B 1 light 1;rate 0 0=1 to 1;", "rate 0 0=0 to 0;");
        for (int shell = 0; shell < 16; shell++) {
            shell(x, 0, 1000);
        }
        x.rules(0, 100000, 1000000);
        for (int round = 0; round < 13; round++) {
            x.look(1);
            x.steps(0, 1);
            x.look(2);
            x.steps(0, 1);
            due("about(5)", x.about(5), Math.min(200, 16 * (round + 1)));
        }
        event(x, 199, 24, 0, 7, 0, 1);
        event(x, 200);
        event(x, 0, 0, 0, 0, 0, 1);
    }

    // Promise 20
    private static void handing() {
        StarShells x = new StarShells();
        due("hand without SHELLS", x.hand(0, 1), false);
        shell(x, 0, 9, 9);
        shell(x, 0, 3, 0, 4);
        due("hand to none", x.hand(0, 1), false);
        due("hand of none", x.hand(1, 1), false);
        shell(x, 1, 1, 1, 1, 1, 1, 1);
        due("hand(0, 0)", x.hand(0, 0), false);
        due("hand(0, -1)", x.hand(0, -1), false);
        due("hand(0, 100001)", x.hand(0, 100001), false);
        due("hand(2, 1)", x.hand(2, 1), false);
        due("hand(-1, 1)", x.hand(-1, 1), false);
        due("hand(0, 8)", x.hand(0, 8), false);
        parts(x, 0, 1, 3, 0, 4);
        due("hand(0, 2)", x.hand(0, 2), true);
        parts(x, 0, 1, 1, 0, 4);
        parts(x, 1, 0, 3, 1, 1, 1, 1, 1);
        due("hand(0, 5)", x.hand(0, 5), true);
        parts(x, 0, 1, 0, 0, 0, 0, 0, 0);
        parts(x, 1, 0, 4, 1, 5, 1, 1, 1);
        parts(x, 0, 0, 9, 9);
        due("hand(1, 13)", x.hand(1, 13), true);
        parts(x, 0, 1, 4, 1, 5, 1, 1, 1);
        x.fill(1, 0, 2, 99996);
        due("a KIND would be above 100000", x.hand(0, 10), false);
        parts(x, 0, 1, 4, 1, 5, 1, 1, 1);
        parts(x, 1, 0, 0, 0, 99996, 0);
        due("hand(0, 9)", x.hand(0, 9), true);
        parts(x, 1, 0, 4, 1, 100000, 0);
        parts(x, 0, 1, 0, 0, 1, 1, 1, 1);
        due("hand(1, 100000)", x.hand(1, 100000), true);
        parts(x, 0, 1, 4, 1, 99996, 1);
        parts(x, 1, 0, 0, 0, 5, 0);
        for (int shell = 0; shell < 16; shell++) {
            x.shell(0);
            x.shell(1);
        }
        x.fill(0, 15, 5, 2);
        due("hand(0, 1) of 16 SHELLS", x.hand(0, 1), true);
        parts(x, 0, 15, 0, 0, 0, 0, 0, 1);
        parts(x, 1, 15, 0, 0, 0, 0, 0, 1);
    }

    // Promises 21 to 24
    private static void sheets() {
        StarShells x = with(WIDE + "chain 0 A 1 to B 1 light 5;chain 1 A 1 to C 1 light 3;"
            + "rate 0 0=1 to 1;rate 1 0=1 to 1;");
        due("alter ahead of any", x.alter(0, 0, 1), false);
        due("check ahead of any", x.check(0), NONE);
        due("sheet(2)", x.sheet(2), false);
        due("sheet(-1)", x.sheet(-1), false);
        due("check(0)", x.check(0), NONE);
        due("a STAR without SHELLS", x.sheet(1), true);
        due("check(0)", x.check(0), 0);
        due("check(1)", x.check(1), NONE);
        shell(x, 0, 50);
        shell(x, 0, 50);
        x.steps(0, 1);
        due("THE BOOK of the other STAR", x.check(0), 0);
        due("sheet(0)", x.sheet(0), true);
        due("alter", x.alter(15, 4, Long.MIN_VALUE), true);
        due("check(0)", x.check(0), 1);
        due("check(1)", x.check(1), 15);
        due("check(2)", x.check(2), 4);
        due("check(3)", x.check(3), NONE);
        due("check(-1)", x.check(-1), NONE);
        due("alter", x.alter(1, 1, 1), true);
        due("check(0)", x.check(0), 2);
        due("check(1)", x.check(1), NONE);
        due("check(2)", x.check(2), NONE);
        due("alter back", x.alter(15, 4, Long.MIN_VALUE), true);
        due("check(1)", x.check(1), 1);
        due("check(2)", x.check(2), 1);
        due("alter", x.alter(16, 0, 1), false);
        due("alter", x.alter(-1, 0, 1), false);
        due("alter", x.alter(0, 5, 1), false);
        due("alter", x.alter(0, -1, 1), false);
        due("alter", x.alter(0, 0, 0), false);
        // 3 of 5 made of 3 by the mask and of 6 by the STEP: again as THE BOOK.
        due("alter", x.alter(1, 1, 1 ^ 3 ^ 6), true);
        due("alter", x.alter(0, 0, 5 ^ 10), true);
        due("alter", x.alter(0, 1, 3 ^ 6), true);
        x.steps(0, 1);
        due("check(0)", x.check(0), 1);
        due("check(1)", x.check(1), 1);
        due("check(2)", x.check(2), 0);
        due("sheet(0)", x.sheet(0), true);
        due("check(0)", x.check(0), 0);
        x.back();
        due("THE SHEET stays, THE BOOK goes back", x.check(0), 4);
        due("alter", x.alter(0, 0, 10), true);
        due("check(0)", x.check(0), 3);
    }

    /** A STAR of two SHELLS with K 8 and 3. */
    private static StarShells eightAndThree() {
        StarShells x = with(IDENTITY);
        shell(x, 0, 40);
        shell(x, 0, 60);
        x.rules(0, 1, 1000);
        due("HEAT", x.of(0, 0, 3), 80);
        due("HEAT", x.of(0, 1, 3), 30);
        return x;
    }

    // Promises 25, 26
    private static void tones() {
        StarShells x = eightAndThree();
        // x * x - 14 x + 24: the TONES are 2 and 12.
        int[][] below = {{0, 0}, {1, 0}, {2, 0}, {3, 1}, {12, 1}, {13, 2}, {400, 2}, {-1, NONE}, {401, NONE}};
        for (int[] row : below) {
            due("below(0, " + row[0] + ")", x.below(0, row[0]), row[1]);
        }
        due("below(1, 0)", x.below(1, 0), NONE);
        due("below(2, 0)", x.below(2, 0), NONE);
        due("tone(0, 0)", x.tone(0, 0), 2);
        due("tone(0, 1)", x.tone(0, 1), 12);
        due("tone(0, 2)", x.tone(0, 2), NONE);
        due("tone(0, -1)", x.tone(0, -1), NONE);
        due("tone(1, 0)", x.tone(1, 0), NONE);
        due("tone(-1, 0)", x.tone(-1, 0), NONE);
        x.fill(0, 0, 0, 100000);
        due("not SETTLED", x.below(0, 5), NONE);
        due("not SETTLED", x.tone(0, 0), NONE);
        // By the first of two BOXES.
        x = with("push 0=0 to 0,100=100 to 100,200=0 to 0;");
        shell(x, 0, 120);
        x.rules(0, 1, 1000);
        due("settled(0)", x.settled(0), 1);
        due("tone(0, 0)", x.tone(0, 0), 6);
        due("below(0, 7)", x.below(0, 7), 1);
        // Without springs all TONES are 0, each as often as it is one.
        x = with("push 0=0 to 9999;");
        for (int shells = 1; shells <= 7; shells++) {
            shell(x, 1, 10);
            due("below(1, 0)", x.below(1, 0), 0);
            due("below(1, 1)", x.below(1, 1), shells);
            due("tone(1, .)", x.tone(1, shells - 1), 0);
            due("tone(1, .)", x.tone(1, shells), NONE);
        }
        shell(x, 1, 10);
        due("8 SHELLS", x.below(1, 1), NONE);
        due("8 SHELLS", x.tone(1, 0), NONE);
        // K 5, 0: the table falls apart; 5 is counted though the rim's TONE is 0.
        x = with(IDENTITY);
        shell(x, 0, 88);
        shell(x, 0, 14);
        x.rules(0, 1, 1000);
        due("tone(0, 0)", x.tone(0, 0), 0);
        due("tone(0, 1)", x.tone(0, 1), 5);
        due("below(0, 5)", x.below(0, 5), 1);
        due("below(0, 6)", x.below(0, 6), 2);
        // Seven SHELLS of K 99: 99 * (2 - 2 cos((2 k + 1) pi / 15)).
        x = with("push 989=9999 to 9999,990=0 to 9999;");
        for (int i = 0; i < 7; i++) {
            shell(x, 0, 10);
        }
        int[] want = {4, 37, 99, 177, 259, 330, 378};
        for (int k = 0; k < 7; k++) {
            due("tone(0, " + k + ") of 7", x.tone(0, k), want[k]);
        }
        due("below(0, 99)", x.below(0, 99), 2);
        due("below(0, 100)", x.below(0, 100), 3);
        due("below(0, 400)", x.below(0, 400), 7);
    }

    // Promise 27
    private static void seen() {
        StarShells x = new StarShells();
        due("seen", x.seen(2, 0, 0, 0), NONE);
        due("seen", x.seen(-1, 0, 0, 0), NONE);
        due("seen", x.seen(0, 7, 0, 0), NONE);
        due("seen", x.seen(0, -2, 0, 0), NONE);
        due("seen", x.seen(0, 0, -1, 0), NONE);
        due("seen", x.seen(0, 0, 0, 401), NONE);
        due("seen", x.seen(0, 0, 401, 401), NONE);
        due("seen", x.seen(0, -1, -1, 0), NONE);
        due("seen", x.seen(0, -1, 0, 1000000001), NONE);
        due("from above to", x.seen(0, 0, 5, 4), NONE);
        due("from above to", x.seen(0, -1, 5, 4), NONE);
        due("about(6)", x.about(6), 0);
        due("seen", x.seen(0, 0, 0, 400), 1);
        due("seen", x.seen(1, 6, 400, 400), 2);
        due("seen", x.seen(1, -1, 0, 1000000000), 3);
        for (int n = 4; n <= 20; n++) {
            due("seen", x.seen(n % 2, n % 7, 3, 3), n);
        }
        due("the 21st", x.seen(0, 0, 0, 0), NONE);
        due("about(6)", x.about(6), 20);
    }

    // Promise 28
    private static void fits() {
        StarShells x = eightAndThree();
        due("fits(2, -1)", x.fits(2, -1), NONE);
        due("fits(-1, -1)", x.fits(-1, -1), NONE);
        due("fits(0, -2)", x.fits(0, -2), NONE);
        due("all are SETTLED", x.fits(0, -1), 200);
        due("fits(0, 0)", x.fits(0, 0), 1);
        due("fits(0, 199)", x.fits(0, 199), 200);
        due("fits(0, 200)", x.fits(0, 200), NONE);
        due("a STAR without SHELLS", x.fits(1, -1), 0);
        due("fits(1, 0)", x.fits(1, 0), NONE);
        x.rules(0, 5, 1000);
        // HEATS 80 / u and 30 / u: K 8 3, 4 1, 2 1, 2 0 and so on.
        due("seen", x.seen(0, 1, 2, 6), 1);
        due("fits(0, -1)", x.fits(0, -1), 3);
        due("fits(0, 0)", x.fits(0, 0), 2);
        due("fits(0, 1)", x.fits(0, 1), 3);
        due("fits(0, 2)", x.fits(0, 2), 4);
        due("fits(0, 3)", x.fits(0, 3), NONE);
        due("seen", x.seen(1, 0, 400, 400), 2);
        due("what was SEEN of the other STAR", x.fits(0, -1), 3);
        due("seen", x.seen(0, 1, 3, 400), 3);
        due("both", x.fits(0, -1), 2);
        due("its own UNIT stays", x.about(10), 5);
        due("seen", x.seen(0, 2, 0, 400), 4);
        due("it has no such TONE", x.fits(0, -1), 0);
        // Light: rates 80 / u at the HEAT there, for each 10.
        x = with(IDENTITY + "chain 0 A 1 to B 1 light 10;rate 0 0=0 to 0,999=999 to 1998;");
        shell(x, 0, 160);
        due("seen", x.seen(0, -1, 250, 400), 1);
        // 80 / u is x: from 10 x to 20 x, so x is 13 .. 40.
        due("fits(0, -1)", x.fits(0, -1), 5);
        due("fits(0, 0)", x.fits(0, 0), 2);
        due("fits(0, 4)", x.fits(0, 4), 6);
        due("seen", x.seen(0, -1, 533, 533), 2);
        due("two spans of light", x.fits(0, -1), 1);
        due("fits(0, 0)", x.fits(0, 0), 2);
        // A span that ends where the other begins has that in common.
        due("seen", x.seen(0, -1, 800, 900), 3);
        due("800 is the most by UNIT 2", x.fits(0, -1), 1);
        due("seen", x.seen(0, -1, 0, 400), 4);
        due("400 is the least by UNIT 2", x.fits(0, -1), 1);
        due("seen", x.seen(0, -1, 801, 900), 5);
        due("fits(0, -1)", x.fits(0, -1), 0);
        x = eightAndThree();
        x.seen(0, 1, 12, 12);
        due("a BOX alone", x.fits(0, -1), 1);
        due("fits(0, 0)", x.fits(0, 0), 1);
        x.seen(0, 0, 0, 1);
        due("fits(0, -1)", x.fits(0, -1), 0);
        // Not SETTLED by the first ones.
        x = with("push 0=0 to 0,10=10 to 10;");
        shell(x, 1, 220);
        due("fits(1, 0)", x.fits(1, 0), 11);
        due("fits(1, -1)", x.fits(1, -1), 190);
    }

    // Promises 29, 30
    private static void images() {
        StarShells x = with(WIDE + "chain 0 A 1 to B 1 light 5;rate 0 0=1 to 1;", "kind C 7;");
        shell(x, 0, 10);
        x.steps(0, 2);
        x.look(1);
        x.rules(0, 7, 8);
        x.seen(0, 0, 1, 2);
        due("image()", x.image(), 2);
        for (int round = 0; round < 2; round++) {
            due("text()", tell(x, "kind C " + (20 + round) + ";kind D 9;"), 3);
            due("weight(2)", x.weight(2), 20 + round);
            due("about(8)", x.about(8), 2);
            shell(x, 0, 77);
            shell(x, 1, 77);
            x.fill(0, 0, 0, 1);
            due("steps(0, 3)", x.steps(0, 3), 3);
            due("about(5)", x.about(5), 3);
            event(x, 1, 2, 0, 0, 0, 0);
            event(x, 2, 2, 0, 1, 0, 1);
            x.rules(0, 9, 9);
            x.rules(1, 9, 9);
            x.seen(1, 1, 1, 2);
            x.sheet(0);
            x.alter(3, 3, 3);
            due("a text with a FAULT", tell(x, "x"), NONE);
            put(x, "abc");
            due("back()", x.back(), 2);
            int[] about = {2, 1, 1, 0, 2, 1, 1, 3, 1, NONE, 7, 100};
            for (int what = 0; what < about.length; what++) {
                due("about(" + what + ")", x.about(what), about[what]);
            }
            due("about(20)", x.about(20), 8);
            due("about(21)", x.about(21), 1000);
            due("fault(0) stays", x.fault(0), 1);
            due("fault(1) stays", x.fault(1), 0);
            due("weight(2)", x.weight(2), 1);
            due("weight(3)", x.weight(3), 1);
            due("look(2)", x.look(2), true);
            due("weight(2)", x.weight(2), 7);
            due("look(3)", x.look(3), false);
            parts(x, 0, 0, 8, 2);
            due("parts(0, 1, 0)", x.parts(0, 1, 0), NONE);
            due("light(0, 0, 0)", x.light(0, 0, 0), 10);
            event(x, 0, 0, 0, 0, 0, 1);
            event(x, 1);
            // THE SHEET is of light 15 and 15 by then, and one place was altered.
            due("check(0)", x.check(0), 3);
            due("end(0)", x.end(0), 0);
            due("back()", x.back(), 2);
        }
        due("parts that came later are gone", x.shell(0), 1);
        parts(x, 0, 1, 0, 0, 0, 0, 0, 0);
        due("a SHELL that came later had no light", x.light(0, 1, 0), 0);
        x.back();
        // What was lit in the STEP ahead goes back too.
        due("steps(0, 1)", x.steps(0, 1), 1);
        due("it was lit", x.about(5), 1);
        due("image()", x.image(), 2);
        due("back()", x.back(), 2);
        due("about(4)", x.about(4), 3);
    }

    // Promise 31
    private static void abouts() {
        StarShells x = with("kind A 1;kind B 1;", "kind A 1;");
        x.look(0);
        shell(x, 0, 1);
        shell(x, 1, 0);
        shell(x, 1, 0);
        x.steps(1, 3);
        x.seen(0, 0, 0, 0);
        x.feed(0, 0, 0, 0, 0);
        x.rules(0, 11, 12);
        x.rules(1, 13, 14);
        int[] want = {2, 0, 1, 2, 3, 0, 1, 20, 1, NONE, 11, 13, NONE};
        for (int what = 0; what < want.length; what++) {
            due("about(" + what + ")", x.about(what), want[what]);
        }
        due("about(19)", x.about(19), NONE);
        due("about(20)", x.about(20), 12);
        due("about(21)", x.about(21), 14);
        due("about(22)", x.about(22), NONE);
        due("about(-1)", x.about(-1), NONE);
        due("about(least)", x.about(Integer.MIN_VALUE), NONE);
        manyEvents();
    }
}
