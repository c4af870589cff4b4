/** Heads with six bumps each, what they sound, and what can be asked of them. */
public final class HatterTunes {
    public static final int NONE = -1, BAD = -2, STATE = -3, FULL = -4;
    public static final long NO = Long.MIN_VALUE;

    private static final int NEVER = -5, NO_VALUE = -10001;
    private static final int NOTHING = -11, CAST = -12, PLACE = -13, SIZE = -14;

    private static final int HEADS = 6, BUMPS = 6, DIGITS = 10, PRESSES = BUMPS * DIGITS, ROW = 4;
    private static final int NOTES_KEPT = 8, SEEN_KEPT = 5, PLAN_KEPT = 10, BOOK_KEPT = 8;
    private static final int YEARS_ASKED = 60, YEARS_SEEN = 12, LAST_YEAR = 9999, OLD_BOY = 9;
    private static final int SHOPS = 6, CLAUSES = 10, SIGNS = 100, DEEPEST = 4;
    private static final int TAPES = 6, ITEMS = 60, RAN_OUT = 100;
    private static final int TRACE_KEPT = 20, ACT_DEPTH = 20;

    private static final int HEAD = 0, GREAT = 1, SMALL = 2, DEAF = 3, LORD = 4, BOY = 5, TOLD = 6;
    private static final int[] ABOVE = {-1, HEAD, HEAD, HEAD, GREAT, SMALL, DEAF};
    private static final int KINDS = 7;

    private static final int HUMS = 0, PLAYS = 1, TELLS = 2, ACTS = 3;
    /** Of each KIND its own bodies, by ACTS; 0 where it has none. */
    private static final int[] BODIES = {
        10, 11, 12,
        0, 20, 0,
        30, 0, 0,
        0, 0, 40,
        50, 51, 0,
        0, 0, 60,
        71, 70, 0,
    };

    private static final int BYTES = 0, SHORTS = 1, INTS = 2, LONGS = 3, BOOLEANS = 4;

    private static final int[] POWERS = {1, 10, 100, 1000, 10000, 100000, 1000000};

    /** What a TEST can ask about; and the steps into which CLAUSES are read. */
    private static final int FACTS = 6;
    private static final int LESS = 1, SAME = 2, MORE = 3, NOT = 4, AND = 5, OR = 6, BEND = 7;

    private final House now = new House();
    private final House trial = new House();
    private final House kept = new House();
    private boolean imaged;
    private final Text text = new Text();
    private final Shop[] shops = new Shop[SHOPS];
    private int shopCount;
    private final Tape[] tapes = new Tape[TAPES];
    private final Actor actor = new Actor();
    private final Choir choir = new Choir();

    public HatterTunes() {
        for (int s = 0; s < SHOPS; s++) {
            shops[s] = new Shop();
        }
        for (int t = 0; t < TAPES; t++) {
            tapes[t] = new Tape();
        }
    }

    // ---- heads, tunes, shops

    public int head(int kind, int v) {
        if (!isBelow(kind, KINDS)) {
            return NONE;
        }
        if (!isBelow(v, DIGITS)) {
            return BAD;
        }
        return now.size >= HEADS ? FULL : now.addHead(kind, v);
    }

    public int of(int head, int what) {
        if (!isHead(head)) {
            return NO_VALUE;
        }
        switch (what) {
            case 0: return now.kinds[head];
            case 1: return now.vs[head];
            case 2: return now.ages[head];
            case 3: return now.soundOf(head);
            case 4: return now.heardIn(head);
            case 5: return whenHeard(head);
            case 6: return leastPress(head);
            default: return ofBump(head, what / 10, what % 10);
        }
    }

    private int ofBump(int head, int group, int bump) {
        if (!isBelow(bump, BUMPS)) {
            return NO_VALUE;
        }
        switch (group) {
            case 1: return now.bumpOf(head, bump);
            case 2: return now.noteOf(head, bump);
            case 3: return now.pitchOf(head, bump);
            case 4: return possibleBumps(head, bump);
            default: return NO_VALUE;
        }
    }

    private int whenHeard(int head) {
        trial.copyFrom(now);
        for (int years = 0; years <= YEARS_ASKED; years++) {
            if (trial.heardIn(head) != NEVER) {
                return years;
            }
            trial.goYear();
        }
        return NEVER;
    }

    private int leastPress(int head) {
        trial.copyFrom(now);
        for (int choice = 0; choice < PRESSES; choice++) {
            if (wouldHear(head, choice)) {
                return choice;
            }
        }
        return NEVER;
    }

    /** Presses a BUMP of the trial (10 times the BUMP and the number), and lets it be as it is now again. */
    private boolean wouldHear(int head, int choice) {
        int bump = choice / DIGITS;
        trial.setBump(head, bump, choice % DIGITS);
        boolean hears = trial.heardIn(head) != NEVER;
        trial.setBump(head, bump, now.bumpOf(head, bump));
        return hears;
    }

    private int possibleBumps(int head, int bump) {
        int bits = 0;
        for (int n = 0; n < DIGITS; n++) {
            trial.copyFrom(now);
            trial.setBump(head, bump, n);
            if (trial.bearsOutSeen(head)) {
                bits |= 1 << n;
            }
        }
        return bits;
    }

    public int press(int head, int bump, int n) {
        if (!isHead(head) || !isBelow(bump, BUMPS)) {
            return NONE;
        }
        if (!isBelow(n, DIGITS)) {
            return BAD;
        }
        int was = now.bumpOf(head, bump);
        now.setBump(head, bump, n);
        return was;
    }

    public int note(int note) {
        if (note == -1) {
            return now.tune.empty();
        }
        if (!isBelow(note, DIGITS)) {
            return BAD;
        }
        return now.tune.isFull() ? FULL : now.tune.add(note, 0, 0, 0);
    }

    public int row(int head, int part, int n) {
        if (!isHead(head) || !isBelow(part, ROW)) {
            return NONE;
        }
        if (!isBelow(n, DIGITS)) {
            return BAD;
        }
        if (now.kinds[head] != TOLD) {
            return STATE;
        }
        int at = head * ROW + part;
        int was = now.rows[at];
        now.rows[at] = n;
        return was;
    }

    public int feed(int sign) {
        if (!isBelow(sign, 128)) {
            return BAD;
        }
        return text.isFull() ? FULL : text.add(sign);
    }

    public int shop() {
        if (shopCount >= SHOPS) {
            return FULL;
        }
        Shop newest = shops[shopCount];
        int fault = text.parseInto(newest);
        if (fault >= 0) {
            return -10 - fault;
        }
        now.shop = newest;
        return shopCount++;
    }

    public int told(int what) {
        switch (what) {
            case 0: return now.year;
            case 1: return now.shop.growth;
            case 2: return now.heardBits();
            case 3: return now.notesTogether();
            default: return isBelow(what - 10, now.tune.size) ? now.tune.at(what - 10, 0) : NONE;
        }
    }

    // ---- years, anthems

    public int pass(int n) {
        if (!isBelow(n, YEARS_ASKED + 1)) {
            return BAD;
        }
        if (now.year + n > LAST_YEAR) {
            return STATE;
        }
        now.goYears(n);
        return now.year;
    }

    public int on(int n, int head, int what) {
        boolean asksBump = isBelow(what - 10, BUMPS);
        if (!isHead(head) || !(isBelow(what, BUMPS) || asksBump || what == 20)) {
            return NONE;
        }
        if (!isBelow(n, YEARS_ASKED + 1)) {
            return BAD;
        }
        trial.copyFrom(now);
        trial.goYears(n);
        if (asksBump) {
            return trial.bumpOf(head, what - 10);
        }
        return what == 20 ? trial.soundOf(head) : trial.noteOf(head, what);
    }

    public int shared(int head, int other) {
        if (!isHead(head) || !isHead(other)) {
            return NONE;
        }
        return sharedNotes(now.soundOf(head), now.soundOf(other));
    }

    public int anthem(int heads, int k) {
        if (k < -1 || k >= HEADS) {
            return NONE;
        }
        if ((heads >> now.size) != 0) {
            return BAD;
        }
        choir.seek(now, heads);
        if (k == -1) {
            return choir.length();
        }
        return k < choir.size ? choir.best[k] : NEVER;
    }

    /** With how many NOTES one SOUND ends and the other begins, both as numbers. */
    private static int sharedNotes(int ending, int beginning) {
        for (int n = BUMPS; n > 0; n--) {
            if (ending % POWERS[n] == beginning / POWERS[BUMPS - n]) {
                return n;
            }
        }
        return 0;
    }

    // ---- seen, odds

    public int see(int head, int bump, int n, int note) {
        if (head == -1) {
            return now.seen.empty();
        }
        if (!isHead(head) || !isBelow(bump, BUMPS)) {
            return NONE;
        }
        if (!isBelow(n, YEARS_SEEN + 1) || !isBelow(note, DIGITS)) {
            return BAD;
        }
        return now.seen.isFull() ? FULL : now.seen.add(head, bump, n, note);
    }

    public int can(int head, int what) {
        if (!isHead(head) || !isBelow(what, 2)) {
            return NONE;
        }
        int many = 0;
        int least = NEVER;
        for (int v = DIGITS - 1; v >= 0; v--) {
            trial.copyFrom(now);
            trial.vs[head] = v;
            if (trial.bearsOutSeen(head)) {
                many++;
                least = v;
            }
        }
        return what == 0 ? many : least;
    }

    public long odds(int head, int part) {
        if (!isHead(head) || !isBelow(part, 2)) {
            return NO;
        }
        return lowestTerm(pressesHeard(head), PRESSES, part);
    }

    private int pressesHeard(int head) {
        int heard = 0;
        trial.copyFrom(now);
        for (int choice = 0; choice < PRESSES; choice++) {
            if (wouldHear(head, choice)) {
                heard++;
            }
        }
        return heard;
    }

    public long mean(int n, int part) {
        if (!isBelow(n, YEARS_ASKED + 1) || !isBelow(part, 2) || now.size == 0) {
            return NO;
        }
        trial.copyFrom(now);
        trial.goYears(n);
        return lowestTerm(trial.notesTogether(), now.size * BUMPS, part);
    }

    private static long lowestTerm(int above, int below, int part) {
        int common = commonDivisor(above, below);
        int term = part == 0 ? above : below;
        return common == 0 ? term : term / common;
    }

    private static int commonDivisor(int a, int b) {
        int high = a;
        int low = b;
        // Euclid's remainders fall so fast that 64 rounds are enough for any two ints.
        for (int round = 0; round < 64 && low != 0; round++) {
            int rest = high % low;
            high = low;
            low = rest;
        }
        return high;
    }

    // ---- plans, books

    public int plan(int what, int head) {
        if (what == -1) {
            return now.plan.empty();
        }
        if (!isBelow(what, 4) || (what != 0 && !isHead(head))) {
            return NONE;
        }
        return now.plan.isFull() ? FULL : now.plan.add(what, head, 0, 0);
    }

    public int ends(int what) {
        if (!isBelow(what, 2)) {
            return NONE;
        }
        trial.copyFrom(now);
        trial.followPlan();
        return what == 0 ? trial.notesTogether() : trial.heardBits();
    }

    public int book(int head, int age) {
        if (head == -1) {
            return now.book.empty();
        }
        if (!isHead(head)) {
            return NONE;
        }
        if (!isBelow(age, LAST_YEAR + 1)) {
            return BAD;
        }
        return now.book.isFull() ? FULL : now.book.add(head, age, 0, 0);
    }

    public int looked() {
        for (int r = 0; r < now.book.size; r++) {
            int head = now.book.at(r, 0);
            if (!isHead(head) || now.ages[head] != now.book.at(r, 1)) {
                return r;
            }
        }
        return NEVER;
    }

    // ---- judging, the image, acts, tapes

    public int judge(int tape, int i) {
        if (!isBelow(tape, TAPES)) {
            return NONE;
        }
        Tape line = tapes[tape];
        if (line.holds() && line.sort != BYTES) {
            return CAST;
        }
        int notes = now.tune.size;
        if (notes == 0) {
            return NEVER;
        }
        if (!line.hasPlace(i)) {
            return RAN_OUT;
        }
        int looks = Math.min(notes, line.length - i);
        for (int k = 0; k < looks; k++) {
            if (line.items[i + k] != now.tune.at(k, 0)) {
                return k;
            }
        }
        return looks < notes ? RAN_OUT + looks : NEVER;
    }

    public int image() {
        kept.copyFrom(now);
        imaged = true;
        return now.size;
    }

    public int undo() {
        if (!imaged) {
            return STATE;
        }
        now.copyFrom(kept);
        return now.size;
    }

    public int act(int head, int act, int x) {
        actor.forget();
        if (!isHead(head) || !isBelow(act, ACTS)) {
            return 0;
        }
        return actor.perform(head, now.kinds[head], now.vs[head], act, x);
    }

    public int trace(int i) {
        return isBelow(i, actor.keptBodies()) ? actor.bodies[i] : NONE;
    }

    public int taken(int head, int k) {
        if (!isBelow(k, KINDS)) {
            return BAD;
        }
        if (!isHead(head)) {
            return NOTHING;
        }
        int kind = now.kinds[head];
        return isUnder(kind, k) ? kind : CAST;
    }

    public int count(int what) {
        switch (what) {
            case 0: return now.size;
            case 1: return shopCount;
            case 2: return now.seen.size;
            case 3: return now.plan.size;
            case 4: return now.book.size;
            case 5: return text.length;
            case 6: return actor.ran;
            case 7: return now.tune.size;
            default: return BAD;
        }
    }

    public int tape(int tape, int sort, int n) {
        if (!isBelow(tape, TAPES)) {
            return NONE;
        }
        if (sort == -1) {
            return tapes[tape].drop();
        }
        if (!isBelow(sort, BOOLEANS + 1) || n > ITEMS) {
            return BAD;
        }
        return n < 0 ? SIZE : tapes[tape].become(sort, n);
    }

    public int item(int tape, int i, long v) {
        if (!isBelow(tape, TAPES)) {
            return NONE;
        }
        if (!tapes[tape].holds()) {
            return NOTHING;
        }
        return tapes[tape].hasPlace(i) ? tapes[tape].set(i, v) : PLACE;
    }

    public long read(int tape, int i) {
        if (!isBelow(tape, TAPES) || !tapes[tape].hasPlace(i)) {
            return NO;
        }
        return tapes[tape].items[i];
    }

    public int shift(int tape, int i, int other, int j, int n) {
        if (!isBelow(tape, TAPES) || !isBelow(other, TAPES)) {
            return NONE;
        }
        Tape from = tapes[tape];
        Tape to = tapes[other];
        if (!from.holds() || !to.holds()) {
            return NOTHING;
        }
        if (from.sort != to.sort) {
            return CAST;
        }
        if (!from.hasStretch(i, n) || !to.hasStretch(j, n)) {
            return PLACE;
        }
        System.arraycopy(from.items, i, to.items, j, n);
        return n;
    }

    private boolean isHead(int head) {
        return isBelow(head, now.size);
    }

    private static boolean isBelow(int n, int bound) {
        return n >= 0 && n < bound;
    }

    /** Whether a KIND is k, or stands under it. */
    private static boolean isUnder(int kind, int k) {
        int above = kind;
        for (int step = 0; step < KINDS && isBelow(above, KINDS); step++) {
            if (above == k) {
                return true;
            }
            above = ABOVE[above];
        }
        return false;
    }

    /** All that THE IMAGE holds. What is asked of the future is tried out on a copy. */
    private static final class House {
        final int[] kinds = new int[HEADS];
        final int[] vs = new int[HEADS];
        final int[] ages = new int[HEADS];
        final int[] bumps = new int[HEADS * BUMPS];
        final int[] rows = new int[HEADS * ROW];
        final int[] facts = new int[FACTS];
        final Rows tune = new Rows(NOTES_KEPT);
        final Rows seen = new Rows(SEEN_KEPT);
        final Rows plan = new Rows(PLAN_KEPT);
        final Rows book = new Rows(BOOK_KEPT);
        int size;
        int year;
        /** Without CLAUSES as long as no SHOP holds, so that there is always one to ask. */
        Shop shop = new Shop();

        void copyFrom(House other) {
            System.arraycopy(other.kinds, 0, kinds, 0, HEADS);
            System.arraycopy(other.vs, 0, vs, 0, HEADS);
            System.arraycopy(other.ages, 0, ages, 0, HEADS);
            System.arraycopy(other.bumps, 0, bumps, 0, HEADS * BUMPS);
            System.arraycopy(other.rows, 0, rows, 0, HEADS * ROW);
            tune.copyFrom(other.tune);
            seen.copyFrom(other.seen);
            plan.copyFrom(other.plan);
            book.copyFrom(other.book);
            size = other.size;
            year = other.year;
            shop = other.shop;
        }

        /** Called only while there is room. All is set, so that nothing hangs on what stood here before. */
        int addHead(int kind, int v) {
            int head = size;
            kinds[head] = kind;
            vs[head] = v;
            ages[head] = 0;
            setAllBumps(head, 0);
            for (int part = 0; part < ROW; part++) {
                rows[head * ROW + part] = 0;
            }
            size++;
            return head;
        }

        int bumpOf(int head, int bump) {
            return bumps[head * BUMPS + bump];
        }

        void setBump(int head, int bump, int n) {
            bumps[head * BUMPS + bump] = n;
        }

        private void setAllBumps(int head, int n) {
            for (int bump = 0; bump < BUMPS; bump++) {
                setBump(head, bump, n);
            }
        }

        private void raiseBump(int head, int bump) {
            setBump(head, bump, (bumpOf(head, bump) + 1) % DIGITS);
        }

        private void raiseAllBumps(int head) {
            for (int bump = 0; bump < BUMPS; bump++) {
                raiseBump(head, bump);
            }
        }

        void goYears(int n) {
            for (int gone = 0; gone < n; gone++) {
                goYear();
            }
        }

        void goYear() {
            boolean grows = shop.growth > 0 && year % shop.growth == 0;
            for (int head = 0; head < size; head++) {
                if (grows) {
                    raiseBump(head, (year + head) % BUMPS);
                }
                ages[head] = Math.min(ages[head] + 1, LAST_YEAR);
            }
            year++;
        }

        int pitchOf(int head, int bump) {
            tellFacts(head, bump);
            int sum = bumpOf(head, bump) + shop.sharpness(facts);
            int v = vs[head];
            int unlessDeaf = bump == v ? 0 : sum;
            switch (kinds[head]) {
                case GREAT: return sum + v;
                case SMALL: return sum / 2;
                case DEAF: return unlessDeaf;
                case LORD: return bump % 2 == 1 ? 2 * (sum + v) : sum + v;
                case BOY: return sum / 2 + Math.min(ages[head], OLD_BOY);
                case TOLD: return unlessDeaf + rows[head * ROW + year % ROW];
                default: return sum;
            }
        }

        /** In the order of the letters p k v i b y. */
        private void tellFacts(int head, int bump) {
            facts[0] = head;
            facts[1] = kinds[head];
            facts[2] = vs[head];
            facts[3] = bump;
            facts[4] = bumps[head * BUMPS + bump];
            facts[5] = year % 10;
        }

        int noteOf(int head, int bump) {
            return Math.floorMod(pitchOf(head, bump), DIGITS);
        }

        int soundOf(int head) {
            int sound = 0;
            for (int bump = 0; bump < BUMPS; bump++) {
                sound = sound * 10 + noteOf(head, bump);
            }
            return sound;
        }

        int heardIn(int head) {
            int notes = tune.size;
            if (notes == 0) {
                return 0;
            }
            if (notes > BUMPS) {
                return NEVER;
            }
            int wanted = tuneAsNumber();
            int sound = soundOf(head);
            for (int place = 0; place + notes <= BUMPS; place++) {
                int rest = BUMPS - notes - place;
                if (sound / POWERS[rest] % POWERS[notes] == wanted) {
                    return place;
                }
            }
            return NEVER;
        }

        private int tuneAsNumber() {
            int number = 0;
            for (int k = 0; k < tune.size; k++) {
                number = number * 10 + tune.at(k, 0);
            }
            return number;
        }

        int heardBits() {
            int bits = 0;
            for (int head = 0; head < size; head++) {
                if (heardIn(head) != NEVER) {
                    bits |= 1 << head;
                }
            }
            return bits;
        }

        int notesTogether() {
            int sum = 0;
            for (int head = 0; head < size; head++) {
                for (int bump = 0; bump < BUMPS; bump++) {
                    sum += noteOf(head, bump);
                }
            }
            return sum;
        }

        /** Whether all that is SEEN of a HEAD is so; lets the YEARS go to find out. */
        boolean bearsOutSeen(int head) {
            for (int years = 0; years <= YEARS_SEEN; years++) {
                for (int r = 0; r < seen.size; r++) {
                    boolean due = seen.at(r, 0) == head && seen.at(r, 2) == years;
                    if (due && noteOf(head, seen.at(r, 1)) != seen.at(r, 3)) {
                        return false;
                    }
                }
                goYear();
            }
            return true;
        }

        void followPlan() {
            for (int r = 0; r < plan.size; r++) {
                int head = plan.at(r, 1);
                switch (plan.at(r, 0)) {
                    case 0: goYear(); break;
                    case 1: setAllBumps(head, 0); break;
                    case 2: ages[head] = 0; break;
                    default: raiseAllBumps(head); break;
                }
            }
        }
    }

    /** Rows of up to four numbers each, told one behind the other. */
    private static final class Rows {
        private static final int WIDTH = 4;
        private final int[] cells;
        int size;

        Rows(int limit) {
            cells = new int[limit * WIDTH];
        }

        boolean isFull() {
            return size * WIDTH >= cells.length;
        }

        /** Called only while there is room. */
        int add(int a, int b, int c, int d) {
            int at = size * WIDTH;
            cells[at] = a;
            cells[at + 1] = b;
            cells[at + 2] = c;
            cells[at + 3] = d;
            size++;
            return size;
        }

        int empty() {
            size = 0;
            return 0;
        }

        int at(int r, int column) {
            return cells[r * WIDTH + column];
        }

        void copyFrom(Rows other) {
            System.arraycopy(other.cells, 0, cells, 0, Math.min(cells.length, other.cells.length));
            size = other.size;
        }
    }

    /** The CLAUSES as steps: a TEST behind what it joins, a BEND behind what it depends on. */
    private static final class Shop {
        private final int[] steps = new int[SIGNS];
        private final int[] letters = new int[SIGNS];
        private final int[] numbers = new int[SIGNS];
        private int length;
        int growth;

        void clear() {
            length = 0;
            growth = 0;
        }

        /** No step needs fewer than one sign of THE TEXT, so there is room for all. */
        void addStep(int step, int letter, int number) {
            if (length < SIGNS) {
                steps[length] = step;
                letters[length] = letter;
                numbers[length] = number;
                length++;
            }
        }

        /** How much is added to a BUMP, by sharp and flat together. */
        int sharpness(int[] facts) {
            int sum = 0;
            // The answers still to be joined, the latest as the lowest bit.
            int answers = 0;
            for (int s = 0; s < length; s++) {
                int number = numbers[s];
                int fact = facts[letters[s]];
                switch (steps[s]) {
                    case LESS: answers = answers << 1 | (fact < number ? 1 : 0); break;
                    case SAME: answers = answers << 1 | (fact == number ? 1 : 0); break;
                    case MORE: answers = answers << 1 | (fact > number ? 1 : 0); break;
                    case NOT: answers ^= 1; break;
                    case AND: answers = (answers & 1) == 1 ? answers >> 1 : answers >> 1 & ~1; break;
                    case OR: answers = answers >> 1 | answers & 1; break;
                    default: sum += (answers & 1) == 1 ? number : 0; answers = 0; break;
                }
            }
            return sum;
        }
    }

    /** THE TEXT, and how it is read: each part answers whether it stood there, the place tells how far. */
    private static final class Text {
        private final int[] signs = new int[SIGNS];
        int length;
        private int place;
        private int number;
        private Shop shop;

        boolean isFull() {
            return length >= SIGNS;
        }

        /** Called only while there is room. */
        int add(int sign) {
            signs[length] = sign;
            length++;
            return length;
        }

        /** The FAULT, or -1. THE TEXT is empty behind this. */
        int parseInto(Shop newest) {
            newest.clear();
            shop = newest;
            place = 0;
            boolean sound = isClause();
            // Behind the last CLAUSE that there can be no ; is looked for: it is the FAULT.
            for (int c = 1; c < CLAUSES && sound && take(';'); c++) {
                sound = isClause();
            }
            int fault = sound && place == length ? -1 : place;
            length = 0;
            return fault;
        }

        private boolean isClause() {
            switch (peek()) {
                case 's': return isWord("sharp ") && isBend(1);
                case 'f': return isWord("flat ") && isBend(-1);
                case 'g': return isWord("grow ") && isGrowth();
                default: return false;
            }
        }

        private boolean isBend(int sign) {
            if (!isNumber()) {
                return false;
            }
            int amount = sign * number;
            if (!take(' ') || !isEither(0)) {
                return false;
            }
            shop.addStep(BEND, 0, amount);
            return true;
        }

        private boolean isGrowth() {
            if (!isNumber()) {
                return false;
            }
            shop.growth = number;
            return true;
        }

        private boolean isEither(int depth) {
            if (!isBoth(depth)) {
                return false;
            }
            for (int more = 0; more < SIGNS && take('|'); more++) {
                if (!isBoth(depth)) {
                    return false;
                }
                shop.addStep(OR, 0, 0);
            }
            return true;
        }

        private boolean isBoth(int depth) {
            if (!isFactor(depth)) {
                return false;
            }
            for (int more = 0; more < SIGNS && take('&'); more++) {
                if (!isFactor(depth)) {
                    return false;
                }
                shop.addStep(AND, 0, 0);
            }
            return true;
        }

        private boolean isFactor(int depth) {
            if (depth < DEEPEST && take('!')) {
                boolean denied = isFactor(depth + 1);
                shop.addStep(NOT, 0, 0);
                return denied;
            }
            if (depth < DEEPEST && take('(')) {
                return isEither(depth + 1) && take(')');
            }
            return isTest();
        }

        private boolean isTest() {
            int letter = letterNumber(peek());
            if (letter < 0) {
                return false;
            }
            place++;
            int relation = relationStep(peek());
            if (relation < 0) {
                return false;
            }
            place++;
            if (!isNumber()) {
                return false;
            }
            shop.addStep(relation, letter, number);
            return true;
        }

        private static int letterNumber(int sign) {
            switch (sign) {
                case 'p': return 0;
                case 'k': return 1;
                case 'v': return 2;
                case 'i': return 3;
                case 'b': return 4;
                case 'y': return 5;
                default: return -1;
            }
        }

        private static int relationStep(int sign) {
            switch (sign) {
                case '<': return LESS;
                case '=': return SAME;
                case '>': return MORE;
                default: return -1;
            }
        }

        private boolean isNumber() {
            if (!isDigit(peek())) {
                return false;
            }
            number = peek() - '0';
            place++;
            if (isDigit(peek())) {
                number = number * 10 + peek() - '0';
                place++;
            }
            return true;
        }

        private static boolean isDigit(int sign) {
            return sign >= '0' && sign <= '9';
        }

        private boolean isWord(String word) {
            for (int k = 0; k < word.length(); k++) {
                if (!take(word.charAt(k))) {
                    return false;
                }
            }
            return true;
        }

        private boolean take(int sign) {
            if (peek() != sign) {
                return false;
            }
            place++;
            return true;
        }

        /** The sign at the place; -1 at THE TEXT's end. */
        private int peek() {
            return place >= 0 && place < length ? signs[place] : -1;
        }
    }

    /** The shortest row of some HEADS. */
    private static final class Choir {
        private final int[] shares = new int[HEADS * HEADS];
        private final int[] sounds = new int[HEADS];
        private final int[] row = new int[HEADS];
        final int[] best = new int[HEADS];
        int size;
        private int mostShared;

        void seek(House house, int heads) {
            size = Integer.bitCount(heads);
            mostShared = -1;
            for (int head = 0; head < house.size; head++) {
                sounds[head] = house.soundOf(head);
            }
            for (int one = 0; one < house.size; one++) {
                for (int next = 0; next < house.size; next++) {
                    shares[one * HEADS + next] = sharedNotes(sounds[one], sounds[next]);
                }
            }
            extend(heads, 0, 0);
        }

        int length() {
            return BUMPS * size - mostShared;
        }

        /** Tries rows in their order, so that of several that share as much the first stays. */
        private void extend(int left, int depth, int together) {
            if (left == 0 || depth >= HEADS) {
                keepIfBetter(together);
                return;
            }
            for (int head = 0; head < HEADS; head++) {
                if ((left >> head & 1) == 1) {
                    row[depth] = head;
                    int more = depth == 0 ? 0 : shares[row[depth - 1] * HEADS + head];
                    extend(left & ~(1 << head), depth + 1, together + more);
                }
            }
        }

        private void keepIfBetter(int together) {
            if (together > mostShared) {
                mostShared = together;
                System.arraycopy(row, 0, best, 0, HEADS);
            }
        }
    }

    /** The HEAD that acts, and THE TRACE of the bodies that ran. */
    private static final class Actor {
        final int[] bodies = new int[TRACE_KEPT];
        int ran;
        private int number;
        private int kind;
        private int v;

        void forget() {
            ran = 0;
        }

        int keptBodies() {
            return Math.min(ran, TRACE_KEPT);
        }

        int perform(int head, int itsKind, int itsV, int act, int x) {
            number = head;
            kind = itsKind;
            v = itsV;
            return does(kind, act, x, 0);
        }

        /** Runs the body that a KIND, or the next above it, has for an act. */
        private int does(int from, int act, int x, int depth) {
            if (depth >= ACT_DEPTH) {
                return 0;
            }
            int body = bodyFrom(from, act);
            keepBody(body);
            int d = depth + 1;
            switch (body) {
                case 10: return x + number;
                case 11: return does(kind, HUMS, x, d) - v;
                case 12: return does(kind, PLAYS, x, d) * 2;
                case 20: return does(ABOVE[GREAT], PLAYS, x, d) ^ 6;
                case 30: return does(ABOVE[SMALL], HUMS, x * 3, d);
                case 40: return does(ABOVE[DEAF], TELLS, x, d) + does(kind, PLAYS, 1, d);
                case 50: return -does(ABOVE[LORD], HUMS, x, d);
                case 51: return does(ABOVE[LORD], PLAYS, x + 1, d);
                case 60: return does(ABOVE[BOY], TELLS, x - number, d);
                case 70: return does(ABOVE[TOLD], PLAYS, x, d) + does(ABOVE[TOLD], HUMS, 2, d);
                case 71: return does(ABOVE[TOLD], HUMS, x, d) ^ v;
                default: return 0;
            }
        }

        private static int bodyFrom(int from, int act) {
            int at = from;
            for (int step = 0; step < KINDS && isBelow(at, KINDS); step++) {
                int body = BODIES[at * ACTS + act];
                if (body != 0) {
                    return body;
                }
                at = ABOVE[at];
            }
            return 0;
        }

        private void keepBody(int body) {
            if (ran < TRACE_KEPT) {
                bodies[ran] = body;
            }
            ran++;
        }
    }

    /** A row of items of one sort, or nothing. Each item is held as a long, cut to its sort. */
    private static final class Tape {
        private static final int EMPTY = -1;
        final long[] items = new long[ITEMS];
        int sort = EMPTY;
        int length;

        boolean holds() {
            return sort != EMPTY;
        }

        boolean hasPlace(int i) {
            return isBelow(i, length);
        }

        boolean hasStretch(int i, int n) {
            return i >= 0 && n >= 0 && n <= length && i <= length - n;
        }

        int drop() {
            sort = EMPTY;
            length = 0;
            return 1;
        }

        int become(int newSort, int n) {
            sort = newSort;
            length = n;
            for (int i = 0; i < n; i++) {
                items[i] = 0;
            }
            return 1;
        }

        int set(int i, long v) {
            items[i] = cut(v);
            return 1;
        }

        private long cut(long v) {
            switch (sort) {
                case BYTES: return (byte) v;
                case SHORTS: return (short) v;
                case INTS: return (int) v;
                case LONGS: return v;
                default: return v != 0 ? 1 : 0;
            }
        }
    }
}
