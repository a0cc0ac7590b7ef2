/** The edges of TEXTS and of promise 5: TOKENS, NUMBERS, and every FAULT at its place. */
final class TextBoundaries extends Sentences {
    private static final String ALL_THINGS =
        "kind A 1;kind B 1;kind C 1;kind D 1;kind E 1;kind F 1;"
        + "chain 0 A 1 to B 1 light 1;chain 1 B 1 to C 1 light 1;chain 2 C 1 to D 1 light 1;"
        + "chain 3 D 1 to E 1 light 1;chain 4 E 1 to F 1 light 1;push 0=0 to 0;haze 0=0 to 0;"
        + "rate 0 0=0 to 0;rate 1 0=0 to 0;rate 2 0=0 to 0;rate 3 0=0 to 0;rate 4 0=0 to 0;";
    private static final String EIGHT =
        " 0=0 to 0,1=0 to 0,2=0 to 0,3=0 to 0,4=0 to 0,5=0 to 0,6=0 to 0,7=0 to 0";
    /** Every TOKEN that the grammar has a place for. */
    private static final String[] MODEL = ("kind A 1 ; chain 0 A 1 to B 1 light 0 ; push 0 = 0 to 0 , 1 = 0 to 0 ; "
        + "haze 0 = 0 to 0 ; rate 4 0 = 0 to 0 ;").split(" ");

    static void run() {
        tokens();
        numbers();
        clauses();
        points();
        order();
        misplaced();
        numberFaults();
        otherFaults();
        unequal();
        latest();
    }

    private static boolean isLetter(int sign) {
        return sign >= 'a' && sign <= 'z' || sign >= 'A' && sign <= 'Z';
    }

    private static boolean isDigit(int sign) {
        return sign >= '0' && sign <= '9';
    }

    private static void tokens() {
        sentence(4, "TOKENS, blanks (32, 10) aside", () -> {
            taken("");
            taken(" ");
            taken("\n");
            taken(" \n kind \n A\n\n1 ; \n");
            taken("kind A1;push 0=0to0,1=0to0;");
            for (int sign = 0; sign < 256; sign++) {
                boolean blank = sign == 32 || sign == 10;
                fault("kind A 1;" + (char) sign, blank ? 0 : 1, 9);
                fault((char) sign + "kind A 1;", blank ? 0 : 1, 0);
            }
        });
        sentence(4, "letters a .. z, A .. Z one behind the other (one TOKEN)", () -> {
            fault("kindA 1;", 1, 0);
            fault("ki nd A 1;", 1, 0);
            fault("kin", 1, 0);
            fault("kindd A 1;", 1, 0);
            fault("Kind A 1;", 1, 0);
            fault("KIND A 1;", 1, 0);
            for (int sign = 0; sign < 256; sign++) {
                // A letter belongs to the TOKEN ahead, a digit to the one behind.
                boolean fine = sign == 32 || sign == 10 || isDigit(sign);
                fault("kind A" + (char) sign + "1;", fine ? 0 : 1, isLetter(sign) ? 5 : 6);
            }
        });
        sentence(4, "digits likewise (NUMBERS)", () -> {
            fault("kind A 1 2;", 1, 9);
            fault("kind A 1\n2;", 1, 9);
            for (int sign = 0; sign < 256; sign++) {
                boolean fine = sign == 32 || sign == 10 || isDigit(sign);
                fault("kind A 1" + (char) sign + ";", fine ? 0 : 1, sign == ';' ? 9 : 8);
            }
            StarShells x = new StarShells();
            due("text()", tell(x, "kind A " + "0".repeat(391) + "1;"), 1);
            due("weight(0)", x.weight(0), 1);
            due("text()", tell(x, "kind A 0099;"), 2);
            due("weight(0)", x.weight(0), 99);
            fault("kind A " + "9".repeat(392) + ";", 2, 7);
            fault("kind A " + "9".repeat(393), 2, 7);
            fault("kind A " + "1" + "0".repeat(391) + ";", 2, 7);
        });
    }

    private static void numbers() {
        sentence(4, "KIND: one TOKEN of A .. F", () -> {
            for (char kind = 'A'; kind <= 'F'; kind++) {
                StarShells x = with("kind " + kind + " 7;");
                for (int other = 0; other < 6; other++) {
                    due("weight(" + other + ")", x.weight(other), other == kind - 'A' ? 7 : 1);
                }
            }
            for (String none : new String[] {"@", "G", "Z", "a", "f", "AA", "AB", "FA", "Ax", "xA", "1", "0", "="}) {
                fault("kind " + none + " 7;", 1, 5);
                fault("chain 0 " + none + " 1 to B 1 light 0;", 1, 8);
                fault("chain 0 C 1 to " + none + " 1 light 0;", 1, 15);
            }
        });
        sentence(4, "its WEIGHT 1 .. 99", () -> {
            taken("kind A 1;");
            taken("kind A 99;");
            fault("kind A 0;", 2, 7);
            fault("kind A 100;", 2, 7);
        });
        sentence(4, "CHAIN 0 .. 4", () -> {
            for (int chain = 0; chain < 5; chain++) {
                StarShells x = with("chain " + chain + " A 1 to B 1 light 7;");
                for (int other = 0; other < 5; other++) {
                    due("chain(" + other + ", 4)", x.chain(other, 4), other == chain ? 7 : NONE);
                }
            }
            fault("chain 5 A 1 to B 1 light 7;", 2, 6);
            fault("chain 10 A 1 to B 1 light 7;", 2, 6);
        });
        sentence(4, "so many (1 .. 9) parts of the first become so many (1 .. 9) of the second", () -> {
            taken("chain 0 A 1 to B 1 light 0;");
            taken("chain 0 A 9 to B 9 light 0;");
            taken("kind A 9;chain 0 A 1 to B 9 light 0;");
            taken("kind B 9;chain 0 A 9 to B 1 light 0;");
            fault("chain 0 A 0 to B 1 light 0;", 2, 10);
            fault("chain 0 A 10 to B 9 light 0;", 2, 10);
            fault("chain 0 A 1 to B 0 light 0;", 2, 17);
            fault("chain 0 A 9 to B 10 light 0;", 2, 17);
        });
        sentence(4, "with so much light, 0 .. 999", () -> {
            taken("chain 0 A 1 to B 1 light 0;");
            taken("chain 0 A 1 to B 1 light 999;");
            fault("chain 0 A 1 to B 1 light 1000;", 2, 25);
        });
    }

    private static void clauses() {
        sentence(4, "{CLAUSE}, 20 at most", () -> {
            StarShells x = with(ALL_THINGS);
            due("CLAUSES", x.about(8), 18);
            // No text has more without telling something for the second time, so the 21st can't be come to.
            fault(ALL_THINGS + "kind A 1;", 4, ALL_THINGS.length() + 5);
            fault(ALL_THINGS + "push 0=0 to 0;", 4, ALL_THINGS.length());
        });
        sentence(4, "where TABLE is push, or haze, or rate NUMBER (of a CHAIN)", () -> {
            taken("push 0=0 to 0;");
            taken("haze 0=0 to 0;");
            taken("rate 0 0=0 to 0;");
            taken("rate 4 0=0 to 0;");
            fault("rate 5 0=0 to 0;", 2, 5);
            fault("rate =0 to 0;", 1, 5);
            fault("rate 0=0 to 0;", 1, 6);
            fault("push 0 0=0 to 0;", 1, 7);
            fault("pus 0=0 to 0;", 1, 0);
            fault("hazes 0=0 to 0;", 1, 0);
        });
    }

    private static void points() {
        sentence(4, "POINTS: POINT {, POINT} (8 at most)", () -> {
            for (String table : new String[] {"push", "haze", "rate 0", "rate 4"}) {
                taken(table + " 0=0 to 0;");
                taken(table + EIGHT + ";");
                fault(table + ";", 1, table.length());
                fault(table + " 0=0 to 0,;", 1, table.length() + 10);
                fault(table + " ,0=0 to 0;", 1, table.length() + 1);
                fault(table + " 0=0 to 0 1=0 to 0;", 1, table.length() + 10);
                fault(table + EIGHT + ",8=0 to 0;", 5, table.length() + EIGHT.length() + 1);
            }
        });
        sentence(4, "a HEAT 0 .. 999, above the one ahead", () -> {
            taken("push 0=0 to 0,1=0 to 0,998=0 to 0,999=0 to 0;");
            fault("push 1000=0 to 0;", 2, 5);
            fault("push 5=0 to 0,5=0 to 0;", 2, 14);
            fault("push 5=0 to 0,4=0 to 0;", 2, 14);
            fault("push 5=0 to 0,0=0 to 0;", 2, 14);
            fault("push 999=0 to 0,1000=0 to 0;", 2, 16);
            fault("push 999=0 to 0,999=0 to 0;", 2, 16);
            // Of the one ahead, not of the first; and each TABLE begins anew.
            fault("push 5=0 to 0,9=0 to 0,8=0 to 0;", 2, 23);
            taken("push 5=0 to 0,9=0 to 0;haze 0=0 to 0;rate 0 0=0 to 0;rate 1 0=0 to 0;");
        });
        sentence(4, "from LOW to HIGH, 0 .. 9999, LOW not above", () -> {
            taken("push 0=0 to 9999;");
            taken("push 0=9999 to 9999;");
            taken("push 0=0 to 0;");
            taken("push 0=7 to 7,1=0 to 0;");
            fault("push 0=10000 to 10000;", 2, 7);
            fault("push 0=0 to 10000;", 2, 12);
            fault("push 0=1 to 0;", 2, 12);
            fault("push 0=9999 to 9998;", 2, 15);
        });
    }

    private static void order() {
        sentence(5, "FAULTS, the first as TOKENS are come to", () -> {
            fault("kind A 0;kind G 1;", 2, 7);
            fault("kind A 1;kind A 0;kind G 1;", 4, 14);
            fault("chain 0 A 1 to A 0 light 1000;", 3, 15);
            fault("push 0=1 to 0;push", 2, 12);
            fault("push" + EIGHT + ",8 8;kind", 5, 77);
            fault("kind G 0;", 1, 5);
            fault("kind A 100#", 2, 7);
        });
        sentence(5, "at the TOKEN's first byte (of the end at the length)", () -> {
            fault("kind   ABC 1;", 1, 7);
            fault("kind A\n\n\n1000;", 2, 9);
            fault("  nonsense", 1, 2);
            fault("kind", 1, 4);
            fault("kind  ", 1, 6);
            fault("kind A 1 \n\n ", 1, 12);
            fault("kind A 1;chain", 1, 14);
            fault("chain 0 A 2 to B 1 light 1; ", 6, 28);
        });
        sentence(5, "of one the least", () -> {
            int ninth = EIGHT.length() + 5;
            fault("push" + EIGHT + ",;", 1, ninth);
            fault("push" + EIGHT + ",", 1, ninth);
            fault("push" + EIGHT + ",A", 1, ninth);
            fault("push" + EIGHT + ",7=0 to 0;", 2, ninth);
            fault("push" + EIGHT + ",1000=0 to 0;", 2, ninth);
            fault("push" + EIGHT + ",999=0 to 0;", 5, ninth);
            // The end is missing something, and the CHAIN isn't equal: both at the length.
            fault("chain 0 A 2 to B 1 light 1", 1, 26);
            fault("chain 0 A 2 to B 1 light 1;kind", 1, 31);
        });
    }

    private static String join(String[] tokens, int count) {
        return String.join(" ", java.util.Arrays.copyOf(tokens, count));
    }

    private static int placeOf(int token) {
        return token == 0 ? 0 : join(MODEL, token).length() + 1;
    }

    private static boolean isWord(String token) {
        return java.util.List.of("kind", "chain", "push", "haze", "rate").contains(token);
    }

    /** Whether something of the other one's sort can stand where the model has a TOKEN. */
    private static boolean canStand(int token, String other) {
        String there = MODEL[token];
        if (isWord(there)) {
            return isWord(other);
        }
        if (isDigit(there.charAt(0))) {
            return isDigit(other.charAt(0));
        }
        if (there.equals("A") || there.equals("B")) {
            return other.equals("A");
        }
        boolean behindPoint = (there.equals(",") || there.equals(";")) && MODEL[token - 2].equals("to");
        return there.equals(other) || behindPoint && (other.equals(",") || other.equals(";"));
    }

    private static void misplaced() {
        sentence(5, "1 it can't stand there, or is none", () -> {
            String[] others = {"=", ",", ";", ".", "to", "light", "kind", "push", "A", "G", "zz", "1", "#", "-", "\t",
                "\r", "" + (char) 0, "" + (char) 255, "{"};
            for (int token = 0; token < MODEL.length; token++) {
                for (String other : others) {
                    if (!canStand(token, other)) {
                        String[] changed = MODEL.clone();
                        changed[token] = other;
                        fault(join(changed, changed.length), 1, placeOf(token));
                    }
                }
            }
            for (int count = 0; count <= MODEL.length; count++) {
                String cut = join(MODEL, count);
                boolean whole = count == 0 || MODEL[count - 1].equals(";");
                fault(cut, whole ? 0 : 1, cut.length());
            }
        });
    }

    private static void numberFaults() {
        sentence(5, "2 a NUMBER that isn't one of those told", () -> {
            String[][] around = {{"kind A ", ";", "0", "100"}, {"chain ", " A 1 to B 1 light 0;", "5", "6"},
                {"chain 0 A ", " to B 1 light 0;", "0", "10"}, {"chain 0 A 1 to B ", " light 0;", "0", "10"},
                {"chain 0 A 1 to B 1 light ", ";", "1000", "9999"}, {"push ", "=0 to 0;", "1000", "9999"},
                {"push 0=", " to 9999;", "10000", "99999"}, {"push 0=0 to ", ";", "10000", "99999"},
                {"haze 0=8 to ", ";", "7", "0"}, {"haze 3=0 to 0,", "=0 to 0;", "3", "2"},
                {"rate ", " 0=0 to 0;", "5", "10"}, {"rate 0 ", "=0 to 0;", "1000", "10000"}};
            // By these a number that wraps around in 8, 16, 31, 32, 63 or 64 bits would be 1 or 9.
            String[] wraps = {"257", "65537", "2147483649", "4294967297", "4294967305", "9223372036854775809",
                "18446744073709551617", "18446744073709551625", "340282366920938463463374607431768211457"};
            for (String[] row : around) {
                fault(row[0] + row[2] + row[1], 2, row[0].length());
                fault(row[0] + row[3] + row[1], 2, row[0].length());
                for (int i = 0; i < wraps.length; i++) {
                    // 257 and 65537 may be numbers that are told.
                    if (i > 1) {
                        fault(row[0] + wraps[i] + row[1], 2, row[0].length());
                    }
                }
            }
            fault("kind A 257;", 2, 7);
            fault("push 65537=0 to 0;", 2, 5);
            fault("push 0=65537 to 65537;", 2, 7);
        });
    }

    private static void otherFaults() {
        sentence(5, "3 the second KIND of a chain is the first", () -> {
            for (char kind = 'A'; kind <= 'F'; kind++) {
                fault("chain 0 " + kind + " 1 to " + kind + " 1 light 0;", 3, 15);
                fault("chain 0 " + kind + " 1 to " + kind, 3, 15);
                char other = kind == 'F' ? 'A' : (char) (kind + 1);
                taken("chain 0 " + kind + " 1 to " + other + " 1 light 0;");
                taken("chain 0 " + other + " 1 to " + kind + " 1 light 0;");
            }
        });
        sentence(5, "4 a KIND, CHAIN, TABLE for the second time (at KIND, CHAIN's NUMBER, push, haze, rate's NUMBER)", () -> {
            int all = ALL_THINGS.length();
            for (char kind = 'A'; kind <= 'F'; kind++) {
                fault(ALL_THINGS + "kind " + kind, 4, all + 5);
            }
            for (int chain = 0; chain < 5; chain++) {
                fault(ALL_THINGS + "chain " + chain, 4, all + 6);
                fault(ALL_THINGS + "rate " + chain, 4, all + 5);
            }
            fault(ALL_THINGS + "push", 4, all);
            fault(ALL_THINGS + "haze", 4, all);
            fault(ALL_THINGS + "rate 5", 2, all + 5);
            fault(ALL_THINGS + "chain 5", 2, all + 6);
            fault(ALL_THINGS + "kind G", 1, all + 5);
            // A text may tell again what another one told.
            StarShells x = with(ALL_THINGS);
            due("text()", tell(x, ALL_THINGS), 2);
            due("a FAULT", tell(x, "kind A 2;#"), NONE);
            due("text() behind one with a FAULT", tell(x, "kind A 1;"), 3);
        });
        sentence(5, "5 the 9th POINT, the 21st CLAUSE (at its first TOKEN)", () -> {
            for (String table : new String[] {"push", "haze", "rate 0", "rate 4"}) {
                int ninth = table.length() + EIGHT.length() + 1;
                taken(table + EIGHT + ";");
                fault(table + EIGHT + ",8", 5, ninth);
                fault(table + EIGHT + ",  8=0 to 0;", 5, ninth + 2);
                fault(table + EIGHT + ",999=9999 to 0;", 5, ninth);
            }
            taken("push" + EIGHT + ";haze" + EIGHT + ";rate 3" + EIGHT + ";rate 2" + EIGHT + ";");
        });
    }

    private static void unequal() {
        sentence(5, "Behind the end, at the length, 6: a CHAIN of THE LAWS, as they would be then", () -> {
            for (int chain = 0; chain < 5; chain++) {
                fault("chain " + chain + " A 2 to B 1 light 1;", 6, 27);
                fault("chain " + chain + " A 2 to B 1 light 1; \n ", 6, 30);
                fault("chain " + chain + " A 2 to B 1 light 1;kind A 3;", 6, 36);
                taken("chain " + chain + " A 2 to B 1 light 1;kind B 2;");
                fault("chain " + chain + " A 2 to B 1 light 1;#", 1, 27);
            }
            StarShells x = with("chain 4 A 3 to B 3 light 1;");
            due("a KIND of an older CHAIN", tell(x, "kind A 2;"), NONE);
            due("fault(0)", x.fault(0), 6);
            due("fault(1)", x.fault(1), 9);
            due("about(7)", x.about(7), 0);
            due("both KINDS of it", tell(x, "kind A 2;kind B 2;"), 2);
            due("the CHAIN anew with the KIND", tell(x, "kind A 4;chain 4 A 1 to B 2 light 1;"), 3);
            due("a KIND that is in no CHAIN", tell(x, "kind F 99;"), 4);
            due("look(0)", x.look(0), true);
            due("the latest LAWS, not those looked at", tell(x, "kind A 1;kind B 1;"), NONE);
            due("fault(0)", x.fault(0), 6);
            due("fault(1)", x.fault(1), 18);
            due("look(1)", x.look(1), true);
            due("these are equal by the latest alone", tell(x, "kind A 6;kind B 3;"), 5);
        });
        sentence(5, "whose parts haven't the same WEIGHT together on both sides", () -> {
            taken("kind A 99;kind B 11;chain 0 A 1 to B 9 light 0;");
            taken("kind A 10;kind B 90;chain 0 A 9 to B 1 light 0;");
            taken("kind A 99;kind B 99;chain 0 A 9 to B 9 light 0;");
            fault("kind A 99;kind B 98;chain 0 A 9 to B 9 light 0;", 6, 47);
            fault("kind A 98;kind B 99;chain 0 A 9 to B 9 light 0;", 6, 47);
            fault("kind A 99;kind B 11;chain 0 A 1 to B 8 light 0;", 6, 47);
        });
        sentence(5, "(KINDS that weren't told weigh 1)", () -> {
            taken("chain 0 C 7 to D 7 light 0;");
            taken("kind C 3;chain 0 C 1 to D 3 light 0;");
            fault("kind C 3;chain 0 C 1 to D 2 light 0;", 6, 36);
            fault("kind C 2;chain 0 C 1 to D 1 light 0;", 6, 36);
        });
    }

    private static void latest() {
        sentence(5, "Of the latest text that was read: 0 its FAULT (0 without), 1 its place (NONE without)", () -> {
            StarShells x = new StarShells();
            due("text()", tell(x, "#"), NONE);
            due("fault(0)", x.fault(0), 1);
            due("fault(1)", x.fault(1), 0);
            put(x, "kind A 2");
            due("what isn't read yet", x.fault(0), 1);
            due("text()", x.text(), NONE);
            due("fault(0)", x.fault(0), 1);
            due("fault(1)", x.fault(1), 8);
            due("text()", tell(x, "kind A 100;"), NONE);
            due("fault(0)", x.fault(0), 2);
            due("fault(1)", x.fault(1), 7);
            due("text()", tell(x, ""), 1);
            due("fault(0)", x.fault(0), 0);
            due("fault(1)", x.fault(1), NONE);
        });
        sentence(5, "NONE for others, and ahead of any", () -> {
            StarShells x = new StarShells();
            int[] all = {LEAST, -2, -1, 0, 1, 2, 3, GREATEST};
            for (int what : all) {
                due("fault(" + what + ") ahead of any", x.fault(what), NONE);
            }
            put(x, "#");
            due("a tape alone is no text", x.fault(0), NONE);
            due("text()", x.text(), NONE);
            for (int what : all) {
                due("fault(" + what + ")", x.fault(what), what == 0 ? 1 : what == 1 ? 0 : NONE);
            }
            due("text()", x.text(), 1);
            for (int what : all) {
                due("fault(" + what + ")", x.fault(what), what == 0 ? 0 : NONE);
            }
        });
    }
}
