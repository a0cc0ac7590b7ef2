/** What the tests share: answers held against what is due, and runs of calls that many of them need. */
class Calls {
    static final int NONE = StarShells.NONE;
    static final int LEAST = Integer.MIN_VALUE;
    static final int GREATEST = Integer.MAX_VALUE;
    /** No number of anything: below 0, or far above all that the document names. */
    static final int[] FAR = {LEAST, LEAST + 1, -100000, -2, -1, GREATEST - 1, GREATEST};
    /** At a HEAT of h push is h. */
    static final String IDENTITY = "push 0=0 to 0,999=999 to 999;";
    /** Any NEED up to 9999 can be at any HEAT. */
    static final String WIDE = "push 0=0 to 9999;";

    private static int wrong = 0;
    private static int asked = 0;
    /** Told ahead of each answer that isn't as due. */
    static String context = "";

    static void due(String call, long got, long want) {
        asked++;
        if (got != want) {
            wrong++;
            System.out.println(context + call + " answered " + got + ", due is " + want);
        }
    }

    static void due(String call, boolean got, boolean want) {
        due(call, got ? 1 : 0, want ? 1 : 0);
    }

    static void finish() {
        System.out.println(asked + " answers, " + wrong + " not as due");
        if (wrong != 0) {
            System.exit(1);
        }
    }

    /** The text comes on the tape, without being read. */
    static void put(StarShells x, String text) {
        int ahead = x.about(7);
        for (int at = 0; at < text.length(); at += 20) {
            int[] w = new int[5];
            for (int i = 0; i < 20; i++) {
                int sign = at + i < text.length() ? text.charAt(at + i) : ' ';
                w[i / 4] = w[i / 4] << 8 | sign;
            }
            x.feed(w[0], w[1], w[2], w[3], w[4]);
        }
        x.end(ahead + text.length());
    }

    static int tell(StarShells x, String text) {
        put(x, text);
        return x.text();
    }

    static StarShells with(String... texts) {
        StarShells x = new StarShells();
        for (String text : texts) {
            due("text() of " + text, tell(x, text), x.about(0));
            due("fault(0) of " + text, x.fault(0), 0);
        }
        return x;
    }

    /** A text of its own on a new object: its FAULT and place, or 0 where it is taken. */
    static void fault(String text, int number, int place) {
        StarShells x = new StarShells();
        int answer = tell(x, text);
        due("text() of " + text, answer, number == 0 ? 1 : NONE);
        due("fault(0) of " + text, x.fault(0), number);
        due("fault(1) of " + text, x.fault(1), number == 0 ? NONE : place);
        due("about(7) behind " + text, x.about(7), 0);
        due("about(0) behind " + text, x.about(0), number == 0 ? 1 : 0);
    }

    /** A text that is taken. */
    static void taken(String text) {
        fault(text, 0, NONE);
    }

    /** A new SHELL on the rim with parts of A, B and so on. */
    static void shell(StarShells x, int star, int... parts) {
        int shell = x.shell(star);
        for (int kind = 0; kind < parts.length; kind++) {
            due("fill", x.fill(star, shell, kind, parts[kind]), true);
        }
    }

    static void parts(StarShells x, int star, int shell, int... parts) {
        for (int kind = 0; kind < parts.length; kind++) {
            due("parts(" + star + ", " + shell + ", " + kind + ")", x.parts(star, shell, kind), parts[kind]);
        }
    }

    /** All five numbers of an EVENT; without a row there is none such. */
    static void event(StarShells x, int i, int... row) {
        for (int what = 0; what < 5; what++) {
            due("event(" + i + ", " + what + ")", x.event(i, what), row.length == 0 ? NONE : row[what]);
        }
    }
}
