/** Insides of two stars in whole parts, as the document DOC.md promises them. */
public final class StarShells {

    public static final int NONE = -1;

    private static final int STARS = 2;
    private static final int SHELLS = 16;
    private static final int KINDS = 6;
    private static final int CHAINS = 5;
    private static final int PLACES = SHELLS * CHAINS;
    private static final int MOST_PARTS = 100000;
    private static final int MOST_UNIT = 100000;
    private static final int MOST_LIMIT = 1000000;

    private static final int PUSH = 0;
    private static final int HAZE = 1;
    private static final int RATES = 2;
    private static final int TABLES = RATES + CHAINS;
    private static final int POINTS = 8;
    private static final int LAST_HEAT = 999;

    private static final int MOST_BYTES = 400;
    private static final int MOST_TIME = 30;
    private static final int MOST_STEPS = 300;
    private static final int MOST_STEPS_AT_ONCE = 50;

    private static final int TONES = 7;
    private static final int MOST_TONE = 400;
    private static final int MOST_LIGHT_SEEN = 1000000000;
    private static final int MOST_FITTING_UNIT = 200;

    private final Tape tape;
    private final Reader reader;
    private final Laws[] laws;
    private final World now;
    private final World kept;
    private final Events events;
    private final Sights sights;
    private final Sheet paper;
    private final Inside inside;
    private final Tones tones;
    private final int[] ahead;
    private final long[] glow;

    public StarShells() {
        tape = new Tape();
        reader = new Reader(tape);
        laws = new Laws[MOST_TIME + 1];
        for (int time = 0; time <= MOST_TIME; time++) {
            laws[time] = new Laws();
        }
        now = new World();
        kept = new World();
        events = new Events();
        sights = new Sights();
        paper = new Sheet();
        inside = new Inside();
        tones = new Tones();
        ahead = new int[KINDS];
        glow = new long[CHAINS];
    }

    // ---- texts and laws

    public int feed(int a, int b, int c, int d, int e) {
        if (tape.length + 20 > MOST_BYTES) {
            return NONE;
        }
        tape.append(a);
        tape.append(b);
        tape.append(c);
        tape.append(d);
        tape.append(e);
        return tape.length;
    }

    public int end(int n) {
        if (n < 0 || n > tape.length) {
            return NONE;
        }
        tape.length = n;
        return n;
    }

    public int text() {
        if (now.time >= MOST_TIME) {
            return NONE;
        }
        // The row of the next TIME is free until that TIME is reached, so a text with a FAULT leaves no trace.
        Laws draft = laws[now.time + 1];
        draft.copyFrom(laws[now.time]);
        boolean taken = reader.read(draft);
        tape.length = 0;
        if (!taken) {
            return NONE;
        }
        now.time++;
        now.look = now.time;
        return now.time;
    }

    public int fault(int what) {
        if (!reader.hasRead || what < 0 || what > 1) {
            return NONE;
        }
        return what == 0 ? reader.fault : reader.place;
    }

    public boolean look(int time) {
        if (time < 0 || time > now.time) {
            return false;
        }
        now.look = time;
        return true;
    }

    public int weight(int kind) {
        return isKind(kind) ? lawsNow().weights[kind] : NONE;
    }

    public int chain(int chain, int what) {
        if (!isChain(chain) || what < 0 || what >= Laws.CHAIN_ROW) {
            return NONE;
        }
        return lawsNow().isTold(chain) ? lawsNow().ofChain(chain, what) : NONE;
    }

    public int law(int table, int heat, boolean high) {
        if (table < 0 || table >= TABLES || heat < 0 || heat > LAST_HEAT) {
            return NONE;
        }
        return lawsNow().span(table, heat, high);
    }

    // ---- stars and shells

    public int shell(int star) {
        if (!isStar(star) || now.stars[star].shells >= SHELLS) {
            return NONE;
        }
        now.stars[star].shells++;
        return now.stars[star].shells - 1;
    }

    public boolean fill(int star, int shell, int kind, int parts) {
        if (!isShell(star, shell) || !isKind(kind) || parts < 0 || parts > MOST_PARTS) {
            return false;
        }
        now.stars[star].setParts(shell, kind, parts);
        return true;
    }

    public int parts(int star, int shell, int kind) {
        if (!isShell(star, shell) || !isKind(kind)) {
            return NONE;
        }
        return now.stars[star].partsOf(shell, kind);
    }

    public boolean rules(int star, int unit, int limit) {
        if (!isStar(star) || unit < 1 || unit > MOST_UNIT || limit < 0 || limit > MOST_LIMIT) {
            return false;
        }
        now.stars[star].unit = unit;
        now.stars[star].limit = limit;
        return true;
    }

    public int of(int star, int shell, int what) {
        if (!isShell(star, shell)) {
            return NONE;
        }
        enter(star);
        switch (what) {
            case 0:
                return inside.weights[shell];
            case 1:
                return inside.needs[shell];
            case 2:
                return inside.boxes[shell];
            case 3:
                return inside.heats[shell];
            case 4:
                return inside.tops[shell];
            case 5:
                inside.shine(now.stars[star], lawsNow());
                return inside.moods[shell];
            default:
                return NONE;
        }
    }

    public int box(int star, int shell, int k, boolean high) {
        if (!isShell(star, shell)) {
            return NONE;
        }
        enter(star);
        Boxes runs = inside.runs;
        runs.find(lawsNow(), inside.needs[shell]);
        if (k < 0 || k >= runs.count) {
            return NONE;
        }
        return high ? runs.highs[k] : runs.lows[k];
    }

    public long through(int star, int shell, boolean high) {
        if (!isShell(star, shell)) {
            return NONE;
        }
        enter(star);
        inside.shine(now.stars[star], lawsNow());
        return high ? inside.greatest[shell] : inside.least[shell];
    }

    public int settled(int star) {
        if (!isStar(star)) {
            return NONE;
        }
        enter(star);
        return inside.calmness;
    }

    // ---- steps, events, parts handed over

    public int steps(int star, int n) {
        if (!isStar(star) || n < 1 || n > MOST_STEPS_AT_ONCE) {
            return NONE;
        }
        int made = 0;
        while (made < n && makeStep(star)) {
            made++;
        }
        return made;
    }

    public int event(int i, int what) {
        if (i < 0 || i >= now.events || what < 0 || what >= Events.ROW) {
            return NONE;
        }
        return events.rows[i * Events.ROW + what];
    }

    public boolean hand(int from, int n) {
        if (!isStar(from) || n < 1 || n > MOST_PARTS) {
            return false;
        }
        return now.stars[from].giveRim(now.stars[1 - from], n);
    }

    // ---- the book and the sheet

    public long light(int star, int shell, int chain) {
        if (!isShell(star, shell) || !isChain(chain)) {
            return NONE;
        }
        return now.stars[star].book[shell * CHAINS + chain];
    }

    public boolean sheet(int star) {
        if (!isStar(star)) {
            return false;
        }
        paper.take(star, now.stars[star].book);
        return true;
    }

    public boolean alter(int shell, int chain, long mask) {
        if (paper.star == NONE || shell < 0 || shell >= SHELLS || !isChain(chain) || mask == 0) {
            return false;
        }
        paper.places[shell * CHAINS + chain] ^= mask;
        return true;
    }

    public int check(int what) {
        if (!isStar(paper.star) || what < 0 || what > 2) {
            return NONE;
        }
        paper.compare(now.stars[paper.star].book);
        if (what == 0) {
            return paper.others;
        }
        if (paper.others != 1) {
            return NONE;
        }
        return what == 1 ? paper.other / CHAINS : paper.other % CHAINS;
    }

    // ---- tones, what was seen, units that fit

    public int below(int star, int n) {
        if (n < 0 || n > MOST_TONE || !hear(star)) {
            return NONE;
        }
        return tones.countBelow(n);
    }

    public int tone(int star, int k) {
        return hear(star) ? tones.boxOf(k) : NONE;
    }

    public int seen(int star, int k, int from, int to) {
        int most = k == NONE ? MOST_LIGHT_SEEN : MOST_TONE;
        if (!isStar(star) || k < NONE || k >= TONES || now.sights >= Sights.MOST) {
            return NONE;
        }
        if (from < 0 || from > to || to > most) {
            return NONE;
        }
        sights.stars[now.sights] = star;
        sights.tones[now.sights] = k;
        sights.from[now.sights] = from;
        sights.to[now.sights] = to;
        now.sights++;
        return now.sights;
    }

    public int fits(int star, int i) {
        if (!isStar(star) || i < NONE) {
            return NONE;
        }
        // To lead light through for every UNIT is dear: only where it is asked for.
        boolean lit = sawLight(star);
        int found = 0;
        for (int unit = 1; unit <= MOST_FITTING_UNIT; unit++) {
            if (fitsWith(star, unit, lit)) {
                if (found == i) {
                    return unit;
                }
                found++;
            }
        }
        return i == NONE ? found : NONE;
    }

    // ---- the image, and about all

    public int image() {
        kept.copyFrom(now);
        return now.time;
    }

    public int back() {
        now.copyFrom(kept);
        return now.time;
    }

    public int about(int what) {
        switch (what) {
            case 0:
                return now.time;
            case 1:
                return now.look;
            case 2:
            case 3:
                return now.stars[what - 2].shells;
            case 4:
                return now.steps;
            case 5:
                return now.events;
            case 6:
                return now.sights;
            case 7:
                return tape.length;
            case 8:
                return laws[now.time].clauses;
            case 10:
            case 11:
                return now.stars[what - 10].unit;
            case 20:
            case 21:
                return now.stars[what - 20].limit;
            default:
                return NONE;
        }
    }

    // ---- what the calls share

    private static boolean isStar(int star) {
        return star >= 0 && star < STARS;
    }

    private static boolean isKind(int kind) {
        return kind >= 0 && kind < KINDS;
    }

    private static boolean isChain(int chain) {
        return chain >= 0 && chain < CHAINS;
    }

    private boolean isShell(int star, int shell) {
        return isStar(star) && shell >= 0 && shell < now.stars[star].shells;
    }

    /** Division cut down; no divisor here is ever below 1, but each is looked at before it divides. */
    private static int cut(int number, int by) {
        return by > 0 ? number / by : 0;
    }

    private Laws lawsNow() {
        return laws[now.look];
    }

    private void enter(int star) {
        inside.settle(now.stars[star], lawsNow(), now.stars[star].unit);
    }

    private boolean hear(int star) {
        if (!isStar(star)) {
            return false;
        }
        enter(star);
        return inside.calmness > 0 && tones.listen(inside);
    }

    private boolean sawLight(int star) {
        for (int sight = 0; sight < now.sights; sight++) {
            if (sights.stars[sight] == star && sights.tones[sight] == NONE) {
                return true;
            }
        }
        return false;
    }

    private boolean fitsWith(int star, int unit, boolean lit) {
        inside.settle(now.stars[star], lawsNow(), unit);
        if (inside.calmness == 0) {
            return false;
        }
        if (lit) {
            inside.shine(now.stars[star], lawsNow());
        }
        boolean heard = tones.listen(inside);
        for (int sight = 0; sight < now.sights; sight++) {
            if (sights.stars[sight] == star && !agrees(sight, heard)) {
                return false;
            }
        }
        return true;
    }

    private boolean agrees(int sight, boolean heard) {
        int from = sights.from[sight];
        int to = sights.to[sight];
        int tone = sights.tones[sight];
        if (tone == NONE) {
            int rim = inside.shells - 1;
            return rim >= 0 && inside.least[rim] <= to && inside.greatest[rim] >= from;
        }
        int box = heard ? tones.boxOf(tone) : NONE;
        return box >= from && box <= to;
    }

    private boolean makeStep(int star) {
        if (now.steps >= MOST_STEPS) {
            return false;
        }
        enter(star);
        if (inside.calmness == 0) {
            return false;
        }
        Star it = now.stars[star];
        inside.shine(it, lawsNow());
        for (int shell = 0; shell < it.shells; shell++) {
            burnShell(it, shell);
            tellEvents(star, shell);
        }
        mixChurned(it);
        now.steps++;
        return true;
    }

    private void burnShell(Star it, int shell) {
        Laws law = lawsNow();
        for (int kind = 0; kind < KINDS; kind++) {
            ahead[kind] = it.partsOf(shell, kind);
        }
        for (int chain = 0; chain < CHAINS; chain++) {
            glow[chain] = 0;
            if (law.isTold(chain)) {
                int rate = law.span(RATES + chain, inside.heats[shell], false);
                glow[chain] = it.burn(shell, chain, law, rate);
            }
        }
    }

    private void tellEvents(int star, int shell) {
        Star it = now.stars[star];
        Laws law = lawsNow();
        for (int chain = 0; chain < CHAINS; chain++) {
            int place = shell * CHAINS + chain;
            if (law.isTold(chain)) {
                int kind = law.ofChain(chain, Laws.FIRST);
                int takes = law.ofChain(chain, Laws.TAKES);
                if (it.partsOf(shell, kind) < takes && ahead[kind] >= takes) {
                    keepEvent(star, shell, chain, Events.BURNT_OUT);
                }
            }
            boolean shines = glow[chain] > 0;
            if (shines && !it.shone[place]) {
                keepEvent(star, shell, chain, Events.LIT);
            }
            it.shone[place] = shines;
        }
    }

    private void keepEvent(int star, int shell, int chain, int which) {
        if (now.events >= Events.MOST) {
            return;
        }
        int row = now.events * Events.ROW;
        events.rows[row] = now.steps;
        events.rows[row + 1] = star;
        events.rows[row + 2] = shell;
        events.rows[row + 3] = chain;
        events.rows[row + 4] = which;
        now.events++;
    }

    private void mixChurned(Star it) {
        int lowest = 0;
        for (int shell = 0; shell < it.shells; shell++) {
            if (inside.moods[shell] != Inside.CHURNED) {
                lowest = shell + 1;
            } else if (shell + 1 == it.shells || inside.moods[shell + 1] != Inside.CHURNED) {
                it.mix(lowest, shell);
            }
        }
    }

    // ---- the classes inside

    private static final class Tape {
        final int[] bytes = new int[MOST_BYTES];
        int length;

        void append(int word) {
            for (int shift = 24; shift >= 0 && length < MOST_BYTES; shift -= 8) {
                bytes[length] = (word >>> shift) & 255;
                length++;
            }
        }
    }

    /** Reads the tape as a text, TOKEN by TOKEN, and stops at the first FAULT. */
    private static final class Reader {
        private static final int MOST_CLAUSES = 20;
        private static final int MOST_WEIGHT = 99;
        private static final int MOST_IN_CHAIN = 9;
        private static final int MOST_LIGHT = 999;
        private static final int MOST_IN_TABLE = 9999;
        private static final int TOO_GREAT = 100000;

        private static final int END = 0;
        private static final int WORD = 1;
        private static final int NUMBER = 2;
        private static final int STRANGE = 3;

        private static final int MISPLACED = 1;
        private static final int NOT_TOLD = 2;
        private static final int SAME_KIND = 3;
        private static final int TWICE = 4;
        private static final int TOO_MANY = 5;
        private static final int UNEQUAL = 6;

        /** What may be told once in a text: KINDS, then CHAINS, then TABLES. */
        private static final int CHAIN_THINGS = KINDS;
        private static final int TABLE_THINGS = KINDS + CHAINS;

        private final Tape tape;
        private final boolean[] told = new boolean[TABLE_THINGS + TABLES];
        private Laws draft;
        private int token;
        private int start;
        private int stop;
        private int value;
        private int taken;
        boolean hasRead;
        int fault;
        int place;

        Reader(Tape tape) {
            this.tape = tape;
            this.draft = new Laws();
        }

        boolean read(Laws laws) {
            draft = laws;
            draft.clauses = 0;
            hasRead = true;
            fault = 0;
            place = NONE;
            stop = 0;
            for (int thing = 0; thing < told.length; thing++) {
                told[thing] = false;
            }
            next();
            while (token != END && draft.clauses <= MOST_CLAUSES) {
                if (!clause()) {
                    return false;
                }
                draft.clauses++;
            }
            return draft.isBalanced() || blame(UNEQUAL);
        }

        private boolean clause() {
            if (isWord("kind")) {
                return hasRoom() && kindClause();
            }
            if (isWord("chain")) {
                return hasRoom() && chainClause();
            }
            if (isWord("rate")) {
                return hasRoom() && rateNumber() && tableClause(RATES + value);
            }
            if (isWord("push")) {
                return once(TABLE_THINGS + PUSH) && hasRoom() && tableClause(PUSH);
            }
            if (isWord("haze")) {
                return once(TABLE_THINGS + HAZE) && hasRoom() && tableClause(HAZE);
            }
            return blame(MISPLACED);
        }

        private boolean hasRoom() {
            return draft.clauses < MOST_CLAUSES || blame(TOO_MANY);
        }

        private boolean kindClause() {
            next();
            if (!atKind() || !once(value)) {
                return false;
            }
            int kind = value;
            next();
            if (!takeNumber(1, MOST_WEIGHT)) {
                return false;
            }
            draft.weights[kind] = taken;
            return takeSign(';');
        }

        private boolean chainClause() {
            next();
            if (!atNumber(0, CHAINS - 1) || !once(CHAIN_THINGS + value)) {
                return false;
            }
            int row = value * Laws.CHAIN_ROW;
            next();
            if (!takeKind(NONE)) {
                return false;
            }
            int first = taken;
            draft.chains[row + Laws.FIRST] = first;
            if (!takeNumber(1, MOST_IN_CHAIN)) {
                return false;
            }
            draft.chains[row + Laws.TAKES] = taken;
            if (!takeWord("to") || !takeKind(first)) {
                return false;
            }
            draft.chains[row + Laws.SECOND] = taken;
            if (!takeNumber(1, MOST_IN_CHAIN)) {
                return false;
            }
            draft.chains[row + Laws.GIVES] = taken;
            if (!takeWord("light") || !takeNumber(0, MOST_LIGHT)) {
                return false;
            }
            draft.chains[row + Laws.LIGHT] = taken;
            return takeSign(';');
        }

        private boolean rateNumber() {
            next();
            return atNumber(0, CHAINS - 1) && once(TABLE_THINGS + RATES + value);
        }

        /** From the TABLE's last TOKEN on. */
        private boolean tableClause(int table) {
            next();
            draft.counts[table] = 0;
            int least = 0;
            for (int point = 0; point < POINTS; point++) {
                if (!atNumber(least, LAST_HEAT)) {
                    return false;
                }
                int heat = value;
                next();
                if (!takeSign('=') || !takeNumber(0, MOST_IN_TABLE)) {
                    return false;
                }
                int low = taken;
                if (!takeWord("to") || !takeNumber(low, MOST_IN_TABLE)) {
                    return false;
                }
                draft.addPoint(table, heat, low, taken);
                if (token != ',') {
                    return takeSign(';');
                }
                next();
                least = heat + 1;
            }
            return atNumber(least, LAST_HEAT) && blame(TOO_MANY);
        }

        private boolean blame(int number) {
            fault = number;
            place = start;
            return false;
        }

        private boolean once(int thing) {
            if (told[thing]) {
                return blame(TWICE);
            }
            told[thing] = true;
            return true;
        }

        private boolean atKind() {
            int sign = token == WORD && stop - start == 1 ? tape.bytes[start] : 0;
            if (sign < 'A' || sign >= 'A' + KINDS) {
                return blame(MISPLACED);
            }
            value = sign - 'A';
            return true;
        }

        /** Any KIND but the other one. */
        private boolean takeKind(int other) {
            if (!atKind()) {
                return false;
            }
            if (value == other) {
                return blame(SAME_KIND);
            }
            taken = value;
            next();
            return true;
        }

        private boolean atNumber(int least, int greatest) {
            if (token != NUMBER) {
                return blame(MISPLACED);
            }
            return value >= least && value <= greatest || blame(NOT_TOLD);
        }

        private boolean takeNumber(int least, int greatest) {
            if (!atNumber(least, greatest)) {
                return false;
            }
            taken = value;
            next();
            return true;
        }

        private boolean takeWord(String word) {
            if (!isWord(word)) {
                return blame(MISPLACED);
            }
            next();
            return true;
        }

        private boolean takeSign(int sign) {
            if (token != sign) {
                return blame(MISPLACED);
            }
            next();
            return true;
        }

        private boolean isWord(String word) {
            if (token != WORD || stop - start != word.length()) {
                return false;
            }
            for (int at = 0; at < word.length(); at++) {
                if (tape.bytes[start + at] != word.charAt(at)) {
                    return false;
                }
            }
            return true;
        }

        private void next() {
            start = stop;
            while (start < tape.length && isBlank(tape.bytes[start])) {
                start++;
            }
            stop = start;
            value = 0;
            if (start >= tape.length) {
                token = END;
            } else if (isLetter(tape.bytes[start])) {
                token = WORD;
                while (stop < tape.length && isLetter(tape.bytes[stop])) {
                    stop++;
                }
            } else if (isDigit(tape.bytes[start])) {
                token = NUMBER;
                while (stop < tape.length && isDigit(tape.bytes[stop])) {
                    // A text may hold 400 digits: beyond what any NUMBER may be, how great it is doesn't matter.
                    value = Math.min(value * 10 + tape.bytes[stop] - '0', TOO_GREAT);
                    stop++;
                }
            } else {
                int sign = tape.bytes[start];
                token = sign == '=' || sign == ',' || sign == ';' ? sign : STRANGE;
                stop++;
            }
        }

        private static boolean isBlank(int sign) {
            return sign == 32 || sign == 10;
        }

        private static boolean isLetter(int sign) {
            return sign >= 'a' && sign <= 'z' || sign >= 'A' && sign <= 'Z';
        }

        private static boolean isDigit(int sign) {
            return sign >= '0' && sign <= '9';
        }
    }

    /** THE LAWS as they are at one TIME. */
    private static final class Laws {
        static final int FIRST = 0;
        static final int TAKES = 1;
        static final int SECOND = 2;
        static final int GIVES = 3;
        static final int LIGHT = 4;
        static final int CHAIN_ROW = 5;

        static final int HEAT = 0;
        static final int LOW = 1;
        static final int HIGH = 2;
        private static final int POINT_ROW = 3;

        final int[] weights = new int[KINDS];
        final int[] chains = new int[CHAINS * CHAIN_ROW];
        final int[] counts = new int[TABLES];
        private final int[] points = new int[TABLES * POINTS * POINT_ROW];
        int clauses;

        Laws() {
            for (int kind = 0; kind < KINDS; kind++) {
                weights[kind] = 1;
            }
        }

        void copyFrom(Laws other) {
            System.arraycopy(other.weights, 0, weights, 0, weights.length);
            System.arraycopy(other.chains, 0, chains, 0, chains.length);
            System.arraycopy(other.counts, 0, counts, 0, counts.length);
            System.arraycopy(other.points, 0, points, 0, points.length);
        }

        int ofChain(int chain, int what) {
            return chains[chain * CHAIN_ROW + what];
        }

        boolean isTold(int chain) {
            return ofChain(chain, TAKES) > 0;
        }

        boolean isBalanced() {
            for (int chain = 0; chain < CHAINS; chain++) {
                int gone = ofChain(chain, TAKES) * weights[ofChain(chain, FIRST)];
                int come = ofChain(chain, GIVES) * weights[ofChain(chain, SECOND)];
                if (gone != come) {
                    return false;
                }
            }
            return true;
        }

        int ofPoint(int table, int point, int what) {
            return points[(table * POINTS + point) * POINT_ROW + what];
        }

        void addPoint(int table, int heat, int low, int high) {
            if (counts[table] >= POINTS) {
                return;
            }
            int row = (table * POINTS + counts[table]) * POINT_ROW;
            points[row + HEAT] = heat;
            points[row + LOW] = low;
            points[row + HIGH] = high;
            counts[table]++;
        }

        int span(int table, int heat, boolean high) {
            int count = counts[table];
            if (count == 0) {
                return 0;
            }
            int passed = 0;
            while (passed < count && ofPoint(table, passed, HEAT) <= heat) {
                passed++;
            }
            int left = Math.max(passed - 1, 0);
            int right = Math.min(passed, count - 1);
            int what = high ? HIGH : LOW;
            int wide = ofPoint(table, right, HEAT) - ofPoint(table, left, HEAT);
            if (wide <= 0) {
                return ofPoint(table, left, what);
            }
            int gone = heat - ofPoint(table, left, HEAT);
            int line = ofPoint(table, left, what) * (wide - gone) + ofPoint(table, right, what) * gone;
            return cut(high ? line + wide - 1 : line, wide);
        }

        /** The least LOW, or the greatest HIGH, of these HEATS: lines have it at their ends. */
        int extreme(int table, int from, int to, boolean high) {
            int one = span(table, from, high);
            int other = span(table, to, high);
            int best = high ? Math.max(one, other) : Math.min(one, other);
            for (int point = 0; point < counts[table]; point++) {
                int heat = ofPoint(table, point, HEAT);
                if (heat > from && heat < to) {
                    int here = ofPoint(table, point, high ? HIGH : LOW);
                    best = high ? Math.max(best, here) : Math.min(best, here);
                }
            }
            return best;
        }
    }

    /** The BOXES for a NEED: in each stretch between two POINTS of push the HEATS that can be are one run. */
    private static final class Boxes {
        final int[] lows = new int[POINTS + 1];
        final int[] highs = new int[POINTS + 1];
        int count;
        private long from;
        private long to;

        void find(Laws laws, int need) {
            count = 0;
            int points = laws.counts[PUSH];
            if (points == 0 && need == 0) {
                keep(0, LAST_HEAT);
            }
            for (int stretch = 0; stretch <= points && points > 0; stretch++) {
                from = stretch == 0 ? 0 : laws.ofPoint(PUSH, stretch - 1, Laws.HEAT);
                to = stretch == points ? LAST_HEAT : laws.ofPoint(PUSH, stretch, Laws.HEAT) - 1;
                narrowToNeed(laws, Math.max(stretch - 1, 0), Math.min(stretch, points - 1), need);
                if (from <= to) {
                    keep((int) from, (int) to);
                }
            }
        }

        private void narrowToNeed(Laws laws, int left, int right, long need) {
            int base = laws.ofPoint(PUSH, left, Laws.HEAT);
            long wide = Math.max(laws.ofPoint(PUSH, right, Laws.HEAT) - base, 1);
            int low = laws.ofPoint(PUSH, left, Laws.LOW);
            int high = laws.ofPoint(PUSH, left, Laws.HIGH);
            // A LOW that is cut down is not above NEED if the line is below NEED + 1; a HIGH that is
            // rounded up is not below NEED if the line is above NEED - 1.
            narrow(base, laws.ofPoint(PUSH, right, Laws.LOW) - low, (need + 1 - low) * wide);
            narrow(base, high - laws.ofPoint(PUSH, right, Laws.HIGH), (high + 1 - need) * wide);
        }

        /** Only HEATS stay for which slope * (HEAT - base) is less than bound. */
        private void narrow(int base, int slope, long bound) {
            if (slope > 0) {
                to = Math.min(to, base + Math.floorDiv(bound - 1, (long) slope));
            } else if (slope < 0) {
                from = Math.max(from, base + Math.floorDiv(-bound, -(long) slope) + 1);
            } else if (bound <= 0) {
                to = from - 1;
            }
        }

        private void keep(int low, int high) {
            if (count > 0 && highs[count - 1] + 1 == low) {
                highs[count - 1] = high;
            } else if (count < lows.length) {
                lows[count] = low;
                highs[count] = high;
                count++;
            }
        }
    }

    private static final class Star {
        final int[] parts = new int[SHELLS * KINDS];
        final long[] book = new long[PLACES];
        /** Which CHAINS made light in which SHELLS in the STEP ahead. */
        final boolean[] shone = new boolean[PLACES];
        int shells;
        int unit = 100;
        int limit = 1000;

        void copyFrom(Star other) {
            System.arraycopy(other.parts, 0, parts, 0, parts.length);
            System.arraycopy(other.book, 0, book, 0, book.length);
            for (int place = 0; place < PLACES; place++) {
                shone[place] = other.shone[place];
            }
            shells = other.shells;
            unit = other.unit;
            limit = other.limit;
        }

        int partsOf(int shell, int kind) {
            return parts[shell * KINDS + kind];
        }

        void setParts(int shell, int kind, int count) {
            parts[shell * KINDS + kind] = count;
        }

        int weightOf(int shell, Laws laws) {
            int sum = 0;
            for (int kind = 0; kind < KINDS; kind++) {
                sum += partsOf(shell, kind) * laws.weights[kind];
            }
            return sum;
        }

        /** How often a CHAIN can burn by the parts there are and a rate. */
        int timesOf(int shell, int chain, Laws laws, int rate) {
            int there = partsOf(shell, laws.ofChain(chain, Laws.FIRST));
            return Math.min(cut(there, laws.ofChain(chain, Laws.TAKES)), rate);
        }

        /** A CHAIN burns: the light that it makes. */
        long burn(int shell, int chain, Laws laws, int rate) {
            int second = shell * KINDS + laws.ofChain(chain, Laws.SECOND);
            int gives = laws.ofChain(chain, Laws.GIVES);
            int times = Math.min(timesOf(shell, chain, laws, rate), cut(MOST_PARTS - parts[second], gives));
            parts[shell * KINDS + laws.ofChain(chain, Laws.FIRST)] -= times * laws.ofChain(chain, Laws.TAKES);
            parts[second] += times * gives;
            long light = (long) times * laws.ofChain(chain, Laws.LIGHT);
            book[shell * CHAINS + chain] += light;
            return light;
        }

        void mix(int lowest, int highest) {
            int shared = highest - lowest + 1;
            for (int kind = 0; kind < KINDS; kind++) {
                int sum = 0;
                for (int shell = lowest; shell <= highest; shell++) {
                    sum += partsOf(shell, kind);
                }
                int each = cut(sum, shared);
                int over = sum - each * shared;
                for (int shell = lowest; shell <= highest; shell++) {
                    setParts(shell, kind, shell - lowest < over ? each + 1 : each);
                }
            }
        }

        boolean giveRim(Star other, int n) {
            if (shells == 0 || other.shells == 0) {
                return false;
            }
            int left = n;
            for (int kind = 0; kind < KINDS; kind++) {
                int goes = Math.min(partsOf(shells - 1, kind), left);
                if (other.partsOf(other.shells - 1, kind) + goes > MOST_PARTS) {
                    return false;
                }
                left -= goes;
            }
            if (left > 0) {
                return false;
            }
            left = n;
            for (int kind = 0; kind < KINDS; kind++) {
                int goes = Math.min(partsOf(shells - 1, kind), left);
                parts[(shells - 1) * KINDS + kind] -= goes;
                other.parts[(other.shells - 1) * KINDS + kind] += goes;
                left -= goes;
            }
            return true;
        }
    }

    /** All that THE IMAGE holds. Laws, events and sights only grow from THE IMAGE on, so their counts are enough. */
    private static final class World {
        final Star[] stars = new Star[STARS];
        int time;
        int look;
        int steps;
        int events;
        int sights;

        World() {
            for (int star = 0; star < STARS; star++) {
                stars[star] = new Star();
            }
        }

        void copyFrom(World other) {
            for (int star = 0; star < STARS; star++) {
                stars[star].copyFrom(other.stars[star]);
            }
            time = other.time;
            look = other.look;
            steps = other.steps;
            events = other.events;
            sights = other.sights;
        }
    }

    /** What follows for each SHELL of a STAR from THE LAWS and a UNIT. */
    private static final class Inside {
        static final int CALM = 0;
        static final int CHURNED = 1;
        static final int OPEN = 2;

        final int[] weights = new int[SHELLS];
        final int[] needs = new int[SHELLS];
        final int[] boxes = new int[SHELLS];
        final int[] heats = new int[SHELLS];
        final int[] tops = new int[SHELLS];
        final int[] moods = new int[SHELLS];
        final long[] least = new long[SHELLS];
        final long[] greatest = new long[SHELLS];
        final Boxes runs = new Boxes();
        int shells;
        /** As settled answers it. */
        int calmness;

        void settle(Star star, Laws laws, int unit) {
            shells = star.shells;
            calmness = shells == 0 ? 0 : 2;
            int above = 0;
            for (int shell = shells - 1; shell >= 0; shell--) {
                weights[shell] = star.weightOf(shell, laws);
                needs[shell] = cut(above + weights[shell] / 2, unit);
                above += weights[shell];
                runs.find(laws, needs[shell]);
                boxes[shell] = runs.count;
                heats[shell] = runs.count == 0 ? NONE : runs.lows[0];
                tops[shell] = runs.count == 0 ? NONE : runs.highs[0];
                if (runs.count != 1) {
                    calmness = Math.min(calmness, runs.count == 0 ? 0 : 1);
                }
            }
        }

        /** THROUGH and what it makes of the SHELLS, behind settle. */
        void shine(Star star, Laws laws) {
            long low = 0;
            long high = 0;
            for (int shell = 0; shell < shells; shell++) {
                low += made(star, shell, laws, false);
                high += made(star, shell, laws, true);
                least[shell] = low;
                greatest[shell] = high;
                if (high * haze(shell, laws, true) / 1000 <= star.limit) {
                    moods[shell] = CALM;
                } else {
                    moods[shell] = low * haze(shell, laws, false) / 1000 > star.limit ? CHURNED : OPEN;
                }
            }
        }

        private long made(Star star, int shell, Laws laws, boolean high) {
            long sum = 0;
            for (int chain = 0; chain < CHAINS; chain++) {
                if (laws.isTold(chain)) {
                    int rate = laws.extreme(RATES + chain, spanFrom(shell), spanTo(shell), high);
                    sum += (long) star.timesOf(shell, chain, laws, rate) * laws.ofChain(chain, Laws.LIGHT);
                }
            }
            return sum;
        }

        private int haze(int shell, Laws laws, boolean high) {
            return laws.extreme(HAZE, spanFrom(shell), spanTo(shell), high);
        }

        private int spanFrom(int shell) {
            return heats[shell] == NONE ? 0 : heats[shell];
        }

        private int spanTo(int shell) {
            return tops[shell] == NONE ? 0 : tops[shell];
        }
    }

    private static final class Tones {
        private final int[] springs = new int[TONES];
        private int count;

        /** False, and no TONES, if there are too many SHELLS. */
        boolean listen(Inside inside) {
            count = inside.shells <= TONES ? inside.shells : 0;
            for (int shell = 0; shell < count; shell++) {
                springs[shell] = inside.heats[shell] / 10;
            }
            return count > 0;
        }

        /**
         * By the signs of the determinants of the table's upper left corners with n taken off: each change
         * of sign is a TONE below n. Where B is 0 the table falls apart, and its parts are counted each by
         * itself. A determinant of 0 keeps the sign ahead of it. All stay below 424^7, so a long holds them.
         */
        int countBelow(int n) {
            int changes = 0;
            long before = 0;
            long last = 1;
            boolean negative = false;
            for (int shell = 0; shell < count; shell++) {
                long upper = shell + 1 < count ? springs[shell + 1] : 0;
                long beside = springs[shell];
                if (beside == 0) {
                    last = 1;
                    negative = false;
                }
                long corner = (springs[shell] + upper - n) * last - beside * beside * before;
                if (corner != 0 && corner < 0 != negative) {
                    changes++;
                    negative = !negative;
                }
                before = last;
                last = corner;
            }
            return changes;
        }

        int boxOf(int k) {
            if (k < 0 || k >= count) {
                return NONE;
            }
            int box = 0;
            for (int bit = 256; bit > 0; bit /= 2) {
                if (box + bit <= MOST_TONE && countBelow(box + bit) <= k) {
                    box += bit;
                }
            }
            return box;
        }
    }

    private static final class Events {
        static final int MOST = 200;
        static final int ROW = 5;
        static final int BURNT_OUT = 0;
        static final int LIT = 1;

        final int[] rows = new int[MOST * ROW];
    }

    private static final class Sights {
        static final int MOST = 20;

        final int[] stars = new int[MOST];
        final int[] tones = new int[MOST];
        final int[] from = new int[MOST];
        final int[] to = new int[MOST];
    }

    private static final class Sheet {
        final long[] places = new long[PLACES];
        int star = NONE;
        int others;
        int other;

        void take(int from, long[] book) {
            star = from;
            System.arraycopy(book, 0, places, 0, PLACES);
        }

        void compare(long[] book) {
            others = 0;
            for (int place = 0; place < PLACES; place++) {
                if (places[place] != book[place]) {
                    others++;
                    other = place;
                }
            }
        }
    }
}
