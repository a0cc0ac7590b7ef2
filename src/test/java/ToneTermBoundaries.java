import java.math.BigInteger;
import java.util.Random;

/** The Terms IV: TONES by the determinants of the document's table, and what was SEEN by what is answered. */
final class ToneTermBoundaries extends Sentences {
    static void run() {
        tones();
        boxes();
        seenTones();
        seenLight();
    }

    /** The determinant, by whole numbers alone (each division there is without rest). */
    private static BigInteger determinant(BigInteger[][] rows) {
        BigInteger before = BigInteger.ONE;
        BigInteger sign = BigInteger.ONE;
        int n = rows.length;
        for (int k = 0; k < n - 1; k++) {
            int other = k;
            while (other < n && rows[other][k].signum() == 0) {
                other++;
            }
            if (other == n) {
                return BigInteger.ZERO;
            }
            if (other != k) {
                BigInteger[] row = rows[k];
                rows[k] = rows[other];
                rows[other] = row;
                sign = sign.negate();
            }
            for (int i = k + 1; i < n; i++) {
                for (int j = k + 1; j < n; j++) {
                    BigInteger cross = rows[i][j].multiply(rows[k][k]).subtract(rows[i][k].multiply(rows[k][j]));
                    rows[i][j] = cross.divide(before);
                }
            }
            before = rows[k][k];
        }
        return sign.multiply(rows[n - 1][n - 1]);
    }

    /** K of each SHELL, and 0 above the rim. */
    private static int[] springs(StarShells x, int shells) {
        int[] k = new int[shells + 1];
        for (int shell = 0; shell < shells; shell++) {
            k[shell] = x.of(0, shell, 3) / 10;
        }
        return k;
    }

    /** The document's table, with a number taken off the middle. */
    private static BigInteger[][] table(int[] k, int taken) {
        int n = k.length - 1;
        BigInteger[][] rows = new BigInteger[n][n];
        for (int i = 0; i < n; i++) {
            for (int j = 0; j < n; j++) {
                int number = i == j ? k[i] + k[i + 1] - taken : Math.abs(i - j) == 1 ? -k[Math.max(i, j)] : 0;
                rows[i][j] = BigInteger.valueOf(number);
            }
        }
        return rows;
    }

    private static StarShells someStar(Random random, int shells) {
        String[] pushes = {IDENTITY, "push 0=999 to 999,999=0 to 0;", "push 0=0 to 0,30=500 to 500,400=900 to 900;",
            "push 9=0 to 99,10=90 to 400,700=100 to 999,701=0 to 9999;"};
        StarShells x = with(pushes[random.nextInt(pushes.length)]);
        x.rules(0, 1, 1000);
        for (int shell = 0; shell < shells; shell++) {
            shell(x, 0, random.nextInt(1 + 1800 / shells));
        }
        return x;
    }

    private static void tones() {
        sentence(25, "The TONES are the numbers x for which the table with A along the middle and -B beside it has, "
            + "with x taken off the middle, determinant 0", () -> {
            Random random = new Random(25);
            for (int round = 0; round < 60; round++) {
                int shells = 1 + round % 7;
                StarShells x = someStar(random, shells);
                if (x.settled(0) == 0) {
                    continue;
                }
                int[] k = springs(x, shells);
                for (int n = 0; n <= 400; n += 1 + random.nextInt(7)) {
                    // Each TONE below n turns the determinant's sign, and at a TONE it is 0.
                    int below = x.below(0, n);
                    int sign = determinant(table(k, n)).signum();
                    if (sign != 0) {
                        due("below(0, " + n + ") is odd", below % 2 != 0, sign < 0);
                    } else if (n < 400) {
                        due("a TONE at " + n, x.below(0, n + 1) > below, true);
                    }
                }
            }
        });
        sentence(25, "The row of A: K of it and of the next one (0 above the rim) together; "
            + "of B between two beside one another: K of the upper", () -> {
            Random random = new Random(26);
            for (int round = 0; round < 60; round++) {
                int shells = 1 + round % 7;
                StarShells x = someStar(random, shells);
                if (x.settled(0) == 0) {
                    continue;
                }
                // The TONES together are what stands along the middle.
                BigInteger[][] rows = table(springs(x, shells), 0);
                int middle = 0;
                int boxes = 0;
                for (int i = 0; i < shells; i++) {
                    middle += rows[i][i].intValue();
                    boxes += x.tone(0, i);
                }
                due("BOXES together", boxes <= middle && middle < boxes + shells, true);
            }
        });
    }

    private static void boxes() {
        sentence(26, "BOX of the k-th (from 0): the greatest n (0 .. 399) with not more than k BELOW it", () -> {
            Random random = new Random(27);
            for (int round = 0; round < 30; round++) {
                StarShells x = someStar(random, 1 + round % 7);
                for (int k = 0; k < x.about(2) && x.settled(0) > 0; k++) {
                    int box = x.tone(0, k);
                    due("BELOW " + box, x.below(0, box) <= k, true);
                    due("BELOW " + (box + 1), x.below(0, box + 1) > k, true);
                }
            }
        });
    }

    private static void seenTones() {
        sentence(27, "SEEN: of a STAR, the k-th TONE's BOX is from one to one", () -> {
            // What a STAR answers by a UNIT is SEEN: that UNIT FITS, and all that FIT answer alike.
            for (int unit = 1; unit <= 5; unit++) {
                StarShells x = with(IDENTITY);
                shell(x, 0, 200);
                shell(x, 0, 600);
                x.rules(0, unit, 1000);
                int low = x.tone(0, 0);
                int high = x.tone(0, 1);
                x.seen(0, 0, low, low);
                x.seen(0, 1, high, high);
                int fitting = x.fits(0, NONE);
                boolean found = false;
                for (int i = 0; i < fitting; i++) {
                    int other = x.fits(0, i);
                    x.rules(0, other, 1000);
                    found |= other == unit;
                    due("tone(0, 0) by " + other, x.tone(0, 0), low);
                    due("tone(0, 1) by " + other, x.tone(0, 1), high);
                }
                due("UNIT " + unit + " FITS", found, true);
            }
        });
    }

    private static void seenLight() {
        sentence(27, "or the light that it makes by THROUGH of the rim may be from one to one", () -> {
            String text = IDENTITY + "chain 0 A 1 to B 1 light 3;rate 0 0=0 to 9,999=999 to 1300;";
            for (int from = 0; from <= 1500; from += 50) {
                StarShells x = with(text);
                shell(x, 0, 150);
                shell(x, 0, 250);
                int to = from + 40;
                due("seen", x.seen(0, NONE, from, to), 1);
                int fitting = x.fits(0, NONE);
                int next = 0;
                for (int unit = 1; unit <= 40; unit++) {
                    x.rules(0, unit, 1000);
                    if (x.settled(0) > 0 && x.through(0, 1, false) <= to && x.through(0, 1, true) >= from) {
                        due("fits(0, " + next + ")", x.fits(0, next), unit);
                        next++;
                    }
                }
                due("those up to 40 come first", next <= fitting, true);
            }
        });
    }
}
