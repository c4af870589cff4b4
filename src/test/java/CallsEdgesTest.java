/**
 * Promises 1 to 32, a test each: what each call refuses, in the order of its words, with the numbers just outside and far
 * outside; that nothing has changed behind a refusal; and that what is asked changes nothing.
 */
public final class CallsEdgesTest extends Sentences {
    private static final int FRESH = 0, RICH = 1, CROWDED = 2, OLD = 3, STATES = 4;
    private static final String[] LOOKS = new String[STATES];

    private interface Call {
        long on(HatterTunes x);
    }

    public static void main(String[] args) {
        for (int state = 0; state < STATES; state++) {
            LOOKS[state] = look(made(state));
        }
        constants();
        hostsRefusals();
        theFirstThatTheWordsName();
        belowZero();
        calls();
        aNewObject();
        head();
        of();
        press();
        note();
        row();
        feed();
        shop();
        told();
        pass();
        on();
        shared();
        anthem();
        see();
        can();
        odds();
        mean();
        plan();
        ends();
        book();
        looked();
        judge();
        image();
        undo();
        act();
        trace();
        taken();
        count();
        tape();
        item();
        read();
        shift();
        whatIsAskedChangesNothing();
        end();
    }

    // ---- states, and a look at all that an object shows

    private static HatterTunes made(int state) {
        switch (state) {
            case FRESH: return new HatterTunes();
            case RICH: return rich();
            case CROWDED: return crowded();
            default: return old();
        }
    }

    /** Four HEADS, and something of all. Some 110 calls. */
    private static HatterTunes rich() {
        HatterTunes x = new HatterTunes();
        x.head(6, 2);
        x.head(5, 9);
        x.head(4, 3);
        x.head(1, 0);
        bumps(x, 0, "123456");
        bumps(x, 2, "987650");
        x.row(0, 1, 4);
        x.row(0, 3, 8);
        shop(x, "sharp 3 b>4;grow 2");
        x.note(3);
        x.note(5);
        x.image();
        x.pass(3);
        x.note(7);
        x.see(2, 1, 3, 4);
        x.see(0, 5, 0, 6);
        x.plan(3, 1);
        x.plan(0, 0);
        x.plan(2, 1);
        x.book(0, 3);
        x.book(1, 4);
        x.tape(0, 0, 4);
        x.item(0, 1, 3);
        x.item(0, 2, 5);
        x.item(0, 3, 7);
        x.tape(1, 3, 3);
        x.item(1, 0, Long.MAX_VALUE);
        x.tape(2, 4, 2);
        x.item(2, 1, 9);
        x.tape(3, 0, 0);
        shop(x, "flat 2 p=1;grow 3");
        x.act(0, 2, 3);
        write(x, "gro");
        return x;
    }

    /** All that has an end is at its end. Some 210 calls. */
    private static HatterTunes crowded() {
        HatterTunes x = new HatterTunes();
        for (int k = 0; k < 6; k++) {
            x.head(k + 1, k);
            x.press(k, k, 9);
            x.tape(k, 0, 60);
        }
        for (int k = 0; k < 8; k++) {
            x.note(k);
            x.book(k % 6, 0);
        }
        for (int k = 0; k < 5; k++) {
            x.see(k, k, k, 0);
        }
        for (int k = 0; k < 10; k++) {
            x.plan(k % 4, k % 6);
        }
        for (int k = 0; k < 6; k++) {
            shop(x, "grow " + k);
        }
        x.image();
        write(x, "x".repeat(100));
        return x;
    }

    /** At the last YEAR. Some 180 calls. */
    private static HatterTunes old() {
        HatterTunes x = new HatterTunes();
        x.head(0, 0);
        x.head(6, 1);
        x.see(0, 0, 1, 0);
        x.plan(0, 0);
        shop(x, "grow 7");
        until(x, 9999);
        return x;
    }

    /** Some 290 calls: with those that made it, an object stays below 512. */
    private static String look(HatterTunes x) {
        return look(x, true);
    }

    private static String look(HatterTunes x, boolean atTheTrace) {
        StringBuilder seen = new StringBuilder();
        lookAtCounts(x, seen, atTheTrace);
        for (int h = 0; h < 6; h++) {
            for (int what = 0; what < 46; what++) {
                boolean shown = what <= 6 || (what >= 10 && what % 10 < 6 && what / 10 != 2);
                if (shown) {
                    seen.append(x.of(h, what)).append(' ');
                }
            }
        }
        for (int i = 0; i < 12 && atTheTrace; i++) {
            seen.append(x.trace(i)).append(' ');
        }
        for (int t = 0; t < 6; t++) {
            seen.append(x.judge(t, 1)).append(' ').append(x.read(t, 0)).append(' ');
            seen.append(x.read(t, 1)).append(' ').append(x.read(t, 3)).append(' ');
        }
        for (int h = 0; h < 6; h++) {
            for (int part = 0; part < 4; part++) {
                seen.append(x.row(h, part, 0)).append(' ');
            }
        }
        seen.append(x.shop()).append(' ').append(x.told(1)).append(' ').append(x.of(0, 3)).append(' ').append(x.undo()).append(' ');
        lookAtCounts(x, seen, atTheTrace);
        for (int h = 0; h < 6; h++) {
            seen.append(x.of(h, 2)).append(' ').append(x.of(h, 3)).append(' ');
        }
        return seen.toString();
    }

    private static void lookAtCounts(HatterTunes x, StringBuilder seen, boolean atTheTrace) {
        for (int what = 0; what < 8; what++) {
            seen.append(what == 6 && !atTheTrace ? 0 : x.count(what)).append(' ');
        }
        for (int what = 0; what < 18; what++) {
            seen.append(what > 3 && what < 10 ? 0 : x.told(what)).append(' ');
        }
        seen.append(x.ends(0)).append(' ').append(x.ends(1)).append(' ').append(x.looked()).append(' ');
    }

    /** The answer, and that all is behind it as it was. */
    private static void keeps(int state, String call, Call made, long want) {
        HatterTunes x = made(state);
        due(call + " in state " + state, made.on(x), want);
        due("all behind " + call + " in state " + state, look(x), LOOKS[state]);
    }

    /** Of all that is not in from .. to: just outside, and far. */
    private static int[] outside(int from, int to) {
        return new int[] {from - 1, from - 2, from - 10, -1000, MIN + 1, MIN, to + 1, to + 2, to + 10, 1000000, MAX - 1, MAX};
    }

    private static final int[] ANY = {MIN, -1, 0, 5, 10, 61, MAX};

    // ---- answers

    private static void constants() {
        sentence("public static final int NONE = -1, BAD = -2, STATE = -3, FULL = -4;");
        due("NONE", HatterTunes.NONE, -1);
        due("BAD", HatterTunes.BAD, -2);
        due("STATE", HatterTunes.STATE, -3);
        due("FULL", HatterTunes.FULL, -4);
        sentence("`NO = Long.MIN_VALUE`: There is no such number.");
        due("NO", HatterTunes.NO, Long.MIN_VALUE);
    }

    private static void hostsRefusals() {
        sentence("The host's refusals: NOTHING (-11): nothing is there; CAST (-12): another sort or KIND; PLACE (-13): no such place; SIZE (-14): "
            + "a size below 0.");
        keeps(RICH, "no such HEAD", x -> x.taken(4, 0), -11);
        keeps(RICH, "no item", x -> x.item(4, 0, 0), -11);
        keeps(RICH, "another KIND", x -> x.taken(0, 1), -12);
        keeps(RICH, "another sort", x -> x.judge(1, 0), -12);
        keeps(RICH, "another sort", x -> x.shift(0, 0, 1, 0, 0), -12);
        keeps(RICH, "no such place", x -> x.item(0, 4, 0), -13);
        keeps(RICH, "no such place", x -> x.shift(0, 5, 0, 0, 0), -13);
        keeps(RICH, "a size below 0", x -> x.tape(0, 0, -1), -14);
        keeps(RICH, "a size of 61", x -> x.tape(0, 0, 61), -2);
    }

    private static void theFirstThatTheWordsName() {
        sentence("Answers: NONE (-1) no such number; BAD (-2) a number is not as told; STATE (-3) as told; FULL (-4); the first that a call's "
            + "words name.");
        keeps(CROWDED, "head: NONE, BAD, FULL", x -> x.head(7, 10), NONE);
        keeps(CROWDED, "head: NONE, FULL", x -> x.head(7, 9), NONE);
        keeps(CROWDED, "head: BAD, FULL", x -> x.head(6, 10), BAD);
        keeps(CROWDED, "press: NONE, BAD", x -> x.press(6, 0, 10), NONE);
        keeps(CROWDED, "press: NONE, BAD", x -> x.press(0, 6, 10), NONE);
        keeps(CROWDED, "note: BAD, FULL", x -> x.note(10), BAD);
        keeps(CROWDED, "row: NONE, BAD, STATE", x -> x.row(0, 4, 10), NONE);
        keeps(CROWDED, "row: NONE, STATE", x -> x.row(0, 4, 9), NONE);
        keeps(CROWDED, "row: BAD, STATE", x -> x.row(0, 3, 10), BAD);
        keeps(CROWDED, "feed: BAD, FULL", x -> x.feed(128), BAD);
        keeps(CROWDED, "shop: FULL, FAULT", HatterTunes::shop, FULL);
        keeps(OLD, "pass: BAD, STATE", x -> x.pass(61), BAD);
        keeps(OLD, "on: NONE, BAD", x -> x.on(61, 2, 0), NONE);
        keeps(OLD, "on: NONE, BAD", x -> x.on(61, 0, 6), NONE);
        keeps(RICH, "anthem: NONE, BAD", x -> x.anthem(16, 6), NONE);
        keeps(CROWDED, "see: NONE, BAD, FULL", x -> x.see(6, 0, 13, 10), NONE);
        keeps(CROWDED, "see: NONE, FULL", x -> x.see(0, 6, 0, 0), NONE);
        keeps(CROWDED, "see: BAD, FULL", x -> x.see(0, 0, 13, 0), BAD);
        keeps(CROWDED, "see: BAD, FULL", x -> x.see(0, 0, 0, 10), BAD);
        keeps(CROWDED, "plan: NONE, FULL", x -> x.plan(4, 0), NONE);
        keeps(CROWDED, "plan: NONE, FULL", x -> x.plan(3, 6), NONE);
        keeps(CROWDED, "book: NONE, BAD, FULL", x -> x.book(6, 10000), NONE);
        keeps(CROWDED, "book: NONE, FULL", x -> x.book(6, 0), NONE);
        keeps(CROWDED, "book: BAD, FULL", x -> x.book(0, 10000), BAD);
        keeps(RICH, "taken: BAD, NOTHING", x -> x.taken(4, 7), BAD);
        keeps(RICH, "tape: NONE, BAD", x -> x.tape(6, 5, 0), NONE);
        keeps(RICH, "tape: NONE, SIZE", x -> x.tape(6, 0, -1), NONE);
        keeps(RICH, "tape: BAD, SIZE", x -> x.tape(0, 5, -1), BAD);
        keeps(RICH, "item: NONE, PLACE", x -> x.item(6, -1, 0), NONE);
        keeps(RICH, "item: NOTHING, PLACE", x -> x.item(4, -1, 0), NOTHING);
        keeps(RICH, "shift: NONE, NOTHING, PLACE", x -> x.shift(4, -1, 6, 0, 0), NONE);
        keeps(RICH, "shift: NONE, PLACE", x -> x.shift(6, -1, 0, 0, 0), NONE);
        keeps(RICH, "shift: NOTHING, PLACE", x -> x.shift(0, -1, 4, 0, 0), NOTHING);
        keeps(RICH, "shift: CAST, PLACE", x -> x.shift(0, -1, 1, 0, 0), CAST);
    }

    private static void belowZero() {
        sentence("Where it may be below 0, -10001 stands for NONE.");
        keeps(FRESH, "of(0, 0)", x -> x.of(0, 0), -10001);
        keeps(RICH, "of(4, 30)", x -> x.of(4, 30), -10001);
        keeps(RICH, "of(0, 36)", x -> x.of(0, 36), -10001);
        HatterTunes x = heads(0, 0);
        holds(x, "flat 1 p=0");
        due("a PITCH of -1", x.of(0, 30), -1);
    }

    private static void calls() {
        sentence("An object is used for at most 512 calls after it has been made");
        HatterTunes x = new HatterTunes();
        for (int k = 0; k < 6; k++) {
            due("head", x.head(6, 9), k);
        }
        for (int k = 6; k < 106; k++) {
            due("feed", x.feed('p'), k - 5);
        }
        due("shop", x.shop(), -10);
        for (int k = 107; k < 510; k++) {
            due("of(5, 4x)", x.of(k % 6, 40 + k % 5), 1023);
        }
        due("the 511th call", x.pass(60), 60);
        due("the 512th call", x.anthem(63, 5), 5);
    }

    // ---- heads, tunes, shops

    private static void aNewObject() {
        sentence("`HatterTunes()`: No HEADS, no SHOP.");
        HatterTunes x = new HatterTunes();
        for (int what = 0; what < 8; what++) {
            due("count(" + what + ")", x.count(what), 0);
        }
        for (int what = 0; what < 4; what++) {
            due("told(" + what + ")", x.told(what), 0);
        }
        due("of(0, 0)", x.of(0, 0), NO_VALUE);
        due("undo()", x.undo(), STATE);
        due("looked()", x.looked(), NEVER);
        due("THE TEXT is empty", x.shop(), -10);
        HatterTunes other = new HatterTunes();
        x.head(0, 0);
        x.note(5);
        x.pass(4);
        shop(x, "grow 4");
        x.tape(0, 0, 4);
        x.image();
        due("another object", look(other), LOOKS[FRESH]);
    }

    private static void head() {
        sentence("`int head(int kind, int v)`: A HEAD: its number. NONE: kind; BAD: v; FULL: 6.");
        for (int state = 0; state < STATES; state++) {
            for (int kind : outside(0, 6)) {
                keeps(state, "head(" + kind + ", 0)", x -> x.head(kind, 0), NONE);
                keeps(state, "head(" + kind + ", 10)", x -> x.head(kind, 10), NONE);
            }
            for (int v : outside(0, 9)) {
                keeps(state, "head(0, " + v + ")", x -> x.head(0, v), BAD);
                keeps(state, "head(6, " + v + ")", x -> x.head(6, v), BAD);
            }
        }
        keeps(CROWDED, "head(0, 0)", x -> x.head(0, 0), FULL);
        keeps(CROWDED, "head(6, 9)", x -> x.head(6, 9), FULL);
        HatterTunes x = rich();
        due("the fifth", x.head(0, 0), 4);
        due("the sixth", x.head(6, 9), 5);
        due("the seventh", x.head(0, 0), FULL);
        due("its BUMPS", bumps(x, 5), "000000");
        due("its AGE", x.of(5, 2), 0);
        due("its ROW", x.row(5, 3, 1), 0);
        due("it grows by its number: YEAR 3 and 5 modulo 6", x.on(1, 5, 20), 1000);
    }

    private static void of() {
        sentence("`int of(int head, int what)`: Of a HEAD what 0 KIND, 1 v, 2 AGE, 3 SOUND (as a number), 4 HEARD (-5), 5 WHEN (-5), "
            + "6 PRESS (-5), 10 and i BUMP i, 20 and i NOTE of BUMP i, 30 and i PITCH of it, 40 and i BUMPS of it (bits). -10001: NONE.");
        for (int state = 0; state < STATES; state++) {
            int size = made(state).count(0);
            for (int head : outside(0, size - 1)) {
                keeps(state, "of(" + head + ", 0)", x -> x.of(head, 0), NO_VALUE);
                keeps(state, "of(" + head + ", 45)", x -> x.of(head, 45), NO_VALUE);
                keeps(state, "of(" + head + ", 7)", x -> x.of(head, 7), NO_VALUE);
            }
        }
        HatterTunes x = rich();
        for (int what = -110; what < 110; what++) {
            boolean is = what >= 0 && (what <= 6 || (what >= 10 && what < 50 && what % 10 < 6));
            if (!is) {
                due("of(3, " + what + ")", x.of(3, what), NO_VALUE);
            }
        }
        for (int what : outside(0, 45)) {
            keeps(RICH, "of(0, " + what + ")", y -> y.of(0, what), NO_VALUE);
        }
        HatterTunes low = heads(4, 9);
        holds(low, "flat 99 p=0;flat 99 p=0");
        due("a PITCH far below 0 is none of the refusals", low.of(0, 31), -378);
        holds(low, "flat 10 p=0");
        due("a PITCH of -1", low.of(0, 30), -1);
        holds(low, "flat 14 p=0");
        due("a PITCH of -5", low.of(0, 30), -5);
        due("all BUMPS can be", low.of(0, 40), 1023);
        due("HEARD without notes", low.of(0, 4), 0);
        due("WHEN without notes", low.of(0, 5), 0);
        due("PRESS without notes", low.of(0, 6), 0);
        tune(low, "56789012");
        due("HEARD", low.of(0, 4), NEVER);
        due("WHEN", low.of(0, 5), NEVER);
        due("PRESS", low.of(0, 6), NEVER);
    }

    private static void press() {
        sentence("`int press(int head, int bump, int n)`: A BUMP (0 .. 5) of a HEAD becomes n (0 .. 9): what it was. NONE; BAD.");
        for (int state = 0; state < STATES; state++) {
            for (int head : outside(0, made(state).count(0) - 1)) {
                keeps(state, "press(" + head + ", 0, 1)", x -> x.press(head, 0, 1), NONE);
                keeps(state, "press(" + head + ", 6, 10)", x -> x.press(head, 6, 10), NONE);
            }
        }
        for (int out : outside(0, 5)) {
            keeps(RICH, "press(0, " + out + ", 1)", x -> x.press(0, out, 1), NONE);
            keeps(RICH, "press(3, " + out + ", -1)", x -> x.press(3, out, -1), NONE);
        }
        for (int out : outside(0, 9)) {
            keeps(RICH, "press(0, 0, " + out + ")", x -> x.press(0, 0, out), BAD);
            keeps(RICH, "press(3, 5, " + out + ")", x -> x.press(3, 5, out), BAD);
        }
        keeps(RICH, "press(0, 1, 2), as it is", x -> x.press(0, 1, 2), 2);
        HatterTunes x = heads(0, 0, 0, 0);
        due("to 9", x.press(0, 5, 9), 0);
        due("to 9 again", x.press(0, 5, 9), 9);
        due("to 0", x.press(0, 5, 0), 9);
        due("to 4", x.press(1, 0, 4), 0);
        due("of that HEAD alone", bumps(x, 0) + bumps(x, 1), "000000400000");
    }

    private static void note() {
        sentence("`int note(int note)`: A note (0 .. 9) comes behind THE TUNE's: how many it has (note -1: none then, 0, whatever the rest "
            + "is). BAD; FULL: 8.");
        for (int out : outside(-1, 9)) {
            keeps(FRESH, "note(" + out + ")", x -> x.note(out), BAD);
            keeps(RICH, "note(" + out + ")", x -> x.note(out), BAD);
            keeps(CROWDED, "note(" + out + ")", x -> x.note(out), BAD);
        }
        keeps(CROWDED, "note(0)", x -> x.note(0), FULL);
        keeps(CROWDED, "note(9)", x -> x.note(9), FULL);
        keeps(FRESH, "note(-1)", x -> x.note(-1), 0);
        HatterTunes x = crowded();
        due("note(-1) of 8", x.note(-1), 0);
        due("none", x.count(7), 0);
        due("none", x.told(10), NONE);
        due("note(9)", x.note(9), 1);
        due("note(0)", x.note(0), 2);
        due("the first", x.told(10), 9);
        due("the second", x.told(11), 0);
        due("no third", x.told(12), NONE);
    }

    private static void row() {
        sentence("`int row(int head, int part, int n)`: The ROW of a TOLD one becomes n (0 .. 9) for YEARS modulo 4 being part: what it was. "
            + "NONE: head, part; BAD; STATE: another KIND.");
        for (int state = 0; state < STATES; state++) {
            for (int head : outside(0, made(state).count(0) - 1)) {
                keeps(state, "row(" + head + ", 0, 0)", x -> x.row(head, 0, 0), NONE);
                keeps(state, "row(" + head + ", 4, 10)", x -> x.row(head, 4, 10), NONE);
            }
        }
        for (int part : outside(0, 3)) {
            keeps(RICH, "row(0, " + part + ", 0)", x -> x.row(0, part, 0), NONE);
            keeps(RICH, "row(1, " + part + ", 0)", x -> x.row(1, part, 0), NONE);
            keeps(RICH, "row(0, " + part + ", 10)", x -> x.row(0, part, 10), NONE);
        }
        for (int n : outside(0, 9)) {
            keeps(RICH, "row(0, 0, " + n + ")", x -> x.row(0, 0, n), BAD);
            keeps(RICH, "row(1, 0, " + n + ")", x -> x.row(1, 0, n), BAD);
        }
        for (int kind = 0; kind < 6; kind++) {
            HatterTunes x = heads(kind, 0);
            due("row of KIND " + kind, x.row(0, 0, 9), STATE);
            due("row of KIND " + kind, x.row(0, 3, 0), STATE);
            due("it sounds as it did", x.of(0, 3), 0);
        }
        HatterTunes x = heads(6, 9, 6, 9);
        due("part 0 to 9", x.row(0, 0, 9), 0);
        due("part 3 to 1", x.row(0, 3, 1), 0);
        due("part 0 to 0", x.row(0, 0, 0), 9);
        due("part 3 to 9", x.row(0, 3, 9), 1);
        due("another one's", x.row(1, 3, 0), 0);
    }

    private static void feed() {
        sentence("`int feed(int sign)`: A sign (0 .. 127) comes behind THE TEXT's: how many it has. BAD; FULL.");
        for (int sign : outside(0, 127)) {
            keeps(FRESH, "feed(" + sign + ")", x -> x.feed(sign), BAD);
            keeps(RICH, "feed(" + sign + ")", x -> x.feed(sign), BAD);
            keeps(CROWDED, "feed(" + sign + ")", x -> x.feed(sign), BAD);
        }
        keeps(CROWDED, "feed(0)", x -> x.feed(0), FULL);
        keeps(CROWDED, "feed(127)", x -> x.feed(127), FULL);
        HatterTunes x = new HatterTunes();
        due("feed(0)", x.feed(0), 1);
        due("feed(127)", x.feed(127), 2);
        for (int k = 3; k <= 100; k++) {
            due("feed", x.feed('g'), k);
        }
        due("the 101st", x.feed('g'), FULL);
        due("a FAULT", x.shop(), -10);
        due("empty then", x.feed('g'), 1);
    }

    private static void shop() {
        sentence("`int shop()`: THE TEXT, which is empty then (by a FAULT, too), is a SHOP, and holds: its number. FULL: there are 6 (THE "
            + "TEXT stays); -10 less the FAULT (the one that held holds).");
        keeps(FRESH, "shop() of nothing", HatterTunes::shop, -10);
        keeps(CROWDED, "shop() of six", HatterTunes::shop, FULL);
        HatterTunes x = heads(0, 0);
        due("a FAULT at 3", shop(x, "gro"), -13);
        due("empty then", x.count(5), 0);
        due("no SHOP", x.count(1), 0);
        for (int k = 0; k < 6; k++) {
            due("a SHOP", shop(x, "sharp " + k + " p=0;grow " + k), k);
            due("empty then", x.count(5), 0);
            due("it holds", x.of(0, 30), k);
            due("it holds", x.told(1), k);
            if (k < 5) {
                due("a FAULT at its end", shop(x, "sharp 9 p=0;grow 9;"), -29);
                due("empty then", x.count(5), 0);
                due("the one that held holds", x.of(0, 30), k);
                due("the one that held holds", x.told(1), k);
            }
        }
        write(x, "grow 7");
        due("FULL", x.shop(), FULL);
        due("THE TEXT stays", x.count(5), 6);
        due("more of it", x.feed('x'), 7);
        due("FULL ahead of a FAULT", x.shop(), FULL);
        due("THE TEXT stays", x.count(5), 7);
        due("the sixth holds", x.told(1), 5);
    }

    private static void told() {
        sentence("`int told(int what)`: What 0 YEAR, 1 GROW, 2 in which HEADS THE TUNE is HEARD (bits), 3 all NOTES of all HEADS, together, 10 "
            + "and k the k-th note of THE TUNE. NONE.");
        for (int state = 0; state < STATES; state++) {
            int notes = made(state).count(7);
            for (int what : outside(4, 9 + notes)) {
                if (what < 0 || what > 9) {
                    keeps(state, "told(" + what + ")", x -> x.told(what), NONE);
                }
            }
            for (int what = 4; what <= 9; what++) {
                int none = what;
                keeps(state, "told(" + none + ")", x -> x.told(none), NONE);
            }
        }
        HatterTunes x = crowded();
        due("the last note", x.told(17), 7);
        due("none behind it", x.told(18), NONE);
        due("YEAR", x.told(0), 0);
        due("GROW", x.told(1), 5);
        due("HEARD in none", x.told(2), 0);
        x.note(-1);
        due("HEARD in all", x.told(2), 63);
        HatterTunes y = old();
        due("the last YEAR", y.told(0), 9999);
        for (int h = 0; h < 6; h++) {
            y.head(0, 0);
            y.head(1, 9);
        }
        bumps(y, 0, "999999");
        bumps(y, 1, "999999");
        due("all NOTES: HEADS of 54, TOLD 45, 0, 54, 0, 54", y.told(3), 54 + 45 + 108);
    }

    private static void pass() {
        sentence("`int pass(int n)`: n YEARS (0 .. 60) go: YEAR. BAD; STATE: it would be above 9999.");
        for (int state = 0; state < STATES; state++) {
            for (int n : outside(0, 60)) {
                keeps(state, "pass(" + n + ")", x -> x.pass(n), BAD);
            }
            int year = made(state).told(0);
            keeps(state, "pass(0)", x -> x.pass(0), year);
        }
        keeps(OLD, "pass(1)", x -> x.pass(1), STATE);
        keeps(OLD, "pass(60)", x -> x.pass(60), STATE);
        HatterTunes x = heads(0, 0);
        due("60", x.pass(60), 60);
        until(x, 9939);
        due("60 to the last", x.pass(60), 9999);
        HatterTunes y = heads(0, 0);
        until(y, 9940);
        due("60 beyond the last", y.pass(60), STATE);
        due("none of them has gone", y.told(0), 9940);
        due("none of them has gone", y.of(0, 2), 9940);
        due("59 to the last", y.pass(59), 9999);
        due("none beyond", y.pass(1), STATE);
        due("none", y.pass(0), 9999);
    }

    private static void on() {
        sentence("`int on(int n, int head, int what)`: ON: what 0 .. 5 its NOTE, 10 and i BUMP i, 20 SOUND of a HEAD. NONE: head, what; BAD: n.");
        for (int state = 0; state < STATES; state++) {
            for (int head : outside(0, made(state).count(0) - 1)) {
                keeps(state, "on(0, " + head + ", 20)", x -> x.on(0, head, 20), NONE);
                keeps(state, "on(61, " + head + ", 20)", x -> x.on(61, head, 20), NONE);
            }
        }
        for (int what : outside(0, 20)) {
            keeps(RICH, "on(1, 0, " + what + ")", x -> x.on(1, 0, what), NONE);
            keeps(RICH, "on(-1, 0, " + what + ")", x -> x.on(-1, 0, what), NONE);
        }
        for (int what : new int[] {6, 7, 8, 9, 16, 17, 18, 19, 21, 25, 30}) {
            keeps(RICH, "on(60, 3, " + what + ")", x -> x.on(60, 3, what), NONE);
        }
        for (int n : outside(0, 60)) {
            keeps(RICH, "on(" + n + ", 0, 0)", x -> x.on(n, 0, 0), BAD);
            keeps(RICH, "on(" + n + ", 3, 15)", x -> x.on(n, 3, 15), BAD);
            keeps(OLD, "on(" + n + ", 1, 20)", x -> x.on(n, 1, 20), BAD);
        }
        HatterTunes x = heads(0, 0);
        bumps(x, 0, "123456");
        for (int i = 0; i < 6; i++) {
            due("NOTE " + i, x.on(60, 0, i), i + 1);
            due("BUMP " + i, x.on(0, 0, 10 + i), i + 1);
        }
        due("SOUND", x.on(60, 0, 20), 123456);
    }

    private static void shared() {
        sentence("`int shared(int head, int other)`: SHARED of two (the same one, too). NONE.");
        for (int state = 0; state < STATES; state++) {
            int size = made(state).count(0);
            for (int out : outside(0, size - 1)) {
                keeps(state, "shared(0, " + out + ")", x -> x.shared(0, out), NONE);
                keeps(state, "shared(" + out + ", 0)", x -> x.shared(out, 0), NONE);
                keeps(state, "shared(" + out + ", " + out + ")", x -> x.shared(out, out), NONE);
            }
            for (int h = 0; h < size; h++) {
                int head = h;
                keeps(state, "shared(" + h + ", " + h + ")", x -> x.shared(head, head), 6);
            }
        }
    }

    private static void anthem() {
        sentence("`int anthem(int heads, int k)`: ANTHEM of HEADS (bits, of those there are): k -1 how much, else the k-th (0 .. 5; -5). "
            + "NONE: k; BAD: heads.");
        for (int state = 0; state < STATES; state++) {
            int all = (1 << made(state).count(0)) - 1;
            for (int k : outside(-1, 5)) {
                keeps(state, "anthem(0, " + k + ")", x -> x.anthem(0, k), NONE);
                keeps(state, "anthem(-1, " + k + ")", x -> x.anthem(-1, k), NONE);
            }
            for (int heads : outside(0, all)) {
                keeps(state, "anthem(" + heads + ", -1)", x -> x.anthem(heads, -1), BAD);
                keeps(state, "anthem(" + heads + ", 5)", x -> x.anthem(heads, 5), BAD);
            }
            keeps(state, "anthem(0, -1)", x -> x.anthem(0, -1), 0);
            for (int k = 0; k < 6; k++) {
                int place = k;
                keeps(state, "anthem(0, " + k + ")", x -> x.anthem(0, place), NEVER);
            }
        }
        HatterTunes x = crowded();
        int row = 0;
        for (int k = 0; k < 6; k++) {
            row |= 1 << x.anthem(63, k);
        }
        due("each of six", row, 63);
        due("one of six", x.anthem(32, 0), 5);
        due("one of six", x.anthem(32, 1), NEVER);
    }

    // ---- seen, odds

    private static void see() {
        sentence("`int see(int head, int bump, int n, int note)`: What is SEEN comes: how many there are (head -1: none then, 0, whatever the "
            + "rest is). NONE: head, bump; BAD: n, note; FULL: 5.");
        for (int state = 0; state < STATES; state++) {
            int size = made(state).count(0);
            for (int head : outside(-1, size - 1)) {
                keeps(state, "see(" + head + ", 0, 0, 0)", x -> x.see(head, 0, 0, 0), NONE);
                keeps(state, "see(" + head + ", 0, 13, 10)", x -> x.see(head, 0, 13, 10), NONE);
            }
            if (size > 0) {
                for (int bump : outside(0, 5)) {
                    keeps(state, "see(0, " + bump + ", 0, 0)", x -> x.see(0, bump, 0, 0), NONE);
                    keeps(state, "see(0, " + bump + ", -1, 0)", x -> x.see(0, bump, -1, 0), NONE);
                }
                for (int n : outside(0, 12)) {
                    keeps(state, "see(0, 0, " + n + ", 0)", x -> x.see(0, 0, n, 0), BAD);
                }
                for (int note : outside(0, 9)) {
                    keeps(state, "see(0, 5, 12, " + note + ")", x -> x.see(0, 5, 12, note), BAD);
                }
            }
        }
        keeps(CROWDED, "see(0, 0, 0, 0)", x -> x.see(0, 0, 0, 0), FULL);
        keeps(CROWDED, "see(5, 5, 12, 9)", x -> x.see(5, 5, 12, 9), FULL);
        for (int any : ANY) {
            HatterTunes x = crowded();
            due("none then", x.see(-1, any, any, any), 0);
            due("none", x.count(2), 0);
            due("all BUMPS can be", x.of(0, 40), 1023);
            due("one", x.see(5, 5, 12, 9), 1);
        }
    }

    private static void can() {
        sentence("`int can(int head, int what)`: CAN: what 0 how many, 1 the least; -5. NONE.");
        for (int state = 0; state < STATES; state++) {
            for (int head : outside(0, made(state).count(0) - 1)) {
                keeps(state, "can(" + head + ", 0)", x -> x.can(head, 0), NONE);
            }
        }
        for (int what : outside(0, 1)) {
            keeps(RICH, "can(0, " + what + ")", x -> x.can(0, what), NONE);
        }
        HatterTunes x = heads(0, 0);
        x.see(0, 0, 0, 1);
        due("how many", x.can(0, 0), 0);
        due("none", x.can(0, 1), NEVER);
    }

    private static void odds() {
        sentence("`long odds(int head, int part)`: ODDS; part 0 above, 1 below the line. NO: head, part.");
        for (int state = 0; state < STATES; state++) {
            for (int head : outside(0, made(state).count(0) - 1)) {
                keeps(state, "odds(" + head + ", 0)", x -> x.odds(head, 0), NO);
                keeps(state, "odds(" + head + ", 1)", x -> x.odds(head, 1), NO);
            }
        }
        for (int part : outside(0, 1)) {
            keeps(RICH, "odds(0, " + part + ")", x -> x.odds(0, part), NO);
        }
        keeps(CROWDED, "odds(0, 0)", x -> x.odds(0, 0), 0);
        keeps(CROWDED, "odds(0, 1)", x -> x.odds(0, 1), 1);
        keeps(OLD, "odds(0, 0)", x -> x.odds(0, 0), 1);
        keeps(OLD, "odds(0, 1)", x -> x.odds(0, 1), 1);
    }

    private static void mean() {
        sentence("`long mean(int n, int part)`: MEAN; part likewise. NO.");
        for (int state = 0; state < STATES; state++) {
            for (int n : outside(0, 60)) {
                keeps(state, "mean(" + n + ", 0)", x -> x.mean(n, 0), NO);
                keeps(state, "mean(" + n + ", 1)", x -> x.mean(n, 1), NO);
            }
            for (int part : outside(0, 1)) {
                keeps(state, "mean(60, " + part + ")", x -> x.mean(60, part), NO);
            }
        }
        keeps(FRESH, "mean(0, 0)", x -> x.mean(0, 0), NO);
        keeps(FRESH, "mean(0, 1)", x -> x.mean(0, 1), NO);
    }

    // ---- plans, books

    private static void plan() {
        sentence("`int plan(int what, int head)`: A row comes to the PLAN: how many there are (what -1: it is empty then, 0, whatever the rest "
            + "is). NONE: what (0 .. 3), head (but by 0); FULL: 10.");
        for (int state = 0; state < STATES; state++) {
            int size = made(state).count(0);
            for (int what : outside(-1, 3)) {
                keeps(state, "plan(" + what + ", 0)", x -> x.plan(what, 0), NONE);
            }
            for (int head : outside(0, size - 1)) {
                keeps(state, "plan(1, " + head + ")", x -> x.plan(1, head), NONE);
                keeps(state, "plan(2, " + head + ")", x -> x.plan(2, head), NONE);
                keeps(state, "plan(3, " + head + ")", x -> x.plan(3, head), NONE);
            }
        }
        for (int what = 0; what < 4; what++) {
            int full = what;
            keeps(CROWDED, "plan(" + what + ", 0)", x -> x.plan(full, 0), FULL);
        }
        for (int any : ANY) {
            keeps(CROWDED, "plan(0, " + any + ")", x -> x.plan(0, any), FULL);
            HatterTunes x = crowded();
            due("it is empty then", x.plan(-1, any), 0);
            due("none", x.count(3), 0);
            due("a YEAR of no HEAD", x.plan(0, any), 1);
            due("it ends", x.ends(1), 0);
        }
    }

    private static void ends() {
        sentence("`int ends(int what)`: ENDS: what 0 NOTES, 1 in which HEADS. NONE.");
        for (int state = 0; state < STATES; state++) {
            for (int what : outside(0, 1)) {
                keeps(state, "ends(" + what + ")", x -> x.ends(what), NONE);
            }
        }
        keeps(FRESH, "ends(0)", x -> x.ends(0), 0);
        keeps(FRESH, "ends(1)", x -> x.ends(1), 0);
    }

    private static void book() {
        sentence("`int book(int head, int age)`: A row comes to the BOOK: how many there are (head -1: it is empty then, 0, whatever the rest "
            + "is). NONE; BAD: age; FULL: 8.");
        for (int state = 0; state < STATES; state++) {
            for (int head : outside(-1, made(state).count(0) - 1)) {
                keeps(state, "book(" + head + ", 0)", x -> x.book(head, 0), NONE);
                keeps(state, "book(" + head + ", 10000)", x -> x.book(head, 10000), NONE);
            }
        }
        for (int age : outside(0, 9999)) {
            keeps(RICH, "book(0, " + age + ")", x -> x.book(0, age), BAD);
            keeps(CROWDED, "book(5, " + age + ")", x -> x.book(5, age), BAD);
        }
        keeps(CROWDED, "book(0, 0)", x -> x.book(0, 0), FULL);
        keeps(CROWDED, "book(5, 9999)", x -> x.book(5, 9999), FULL);
        for (int any : ANY) {
            HatterTunes x = crowded();
            due("it is empty then", x.book(-1, any), 0);
            due("none", x.count(4), 0);
            due("nothing to look at", x.looked(), NEVER);
            due("one", x.book(5, 9999), 1);
            due("otherwise", x.looked(), 0);
        }
    }

    private static void looked() {
        sentence("`int looked()`: LOOKED at; -5.");
        keeps(FRESH, "looked()", HatterTunes::looked, NEVER);
        keeps(RICH, "looked()", HatterTunes::looked, 1);
        keeps(CROWDED, "looked()", HatterTunes::looked, NEVER);
        keeps(OLD, "looked()", HatterTunes::looked, NEVER);
    }

    // ---- judging, the image, acts, tapes

    private static void judge() {
        sentence("`int judge(int tape, int i)`: JUDGED from place i of a TAPE on. NONE: tape; CAST: it is no row of bytes.");
        for (int state = 0; state < STATES; state++) {
            for (int tape : outside(0, 5)) {
                for (int place : ANY) {
                    keeps(state, "judge(" + tape + ", " + place + ")", x -> x.judge(tape, place), NONE);
                }
            }
        }
        for (int place : ANY) {
            keeps(RICH, "judge of longs", x -> x.judge(1, place), CAST);
            keeps(RICH, "judge of booleans", x -> x.judge(2, place), CAST);
            keeps(RICH, "judge of no bytes", x -> x.judge(3, place), 100);
            keeps(RICH, "judge of nothing", x -> x.judge(4, place), 100);
            keeps(FRESH, "judge of nothing, no notes", x -> x.judge(4, place), NEVER);
            for (int sort = 1; sort < 5; sort++) {
                HatterTunes x = new HatterTunes();
                x.tape(0, sort, 0);
                due("CAST ahead of no notes and no items", x.judge(0, place), CAST);
            }
        }
        keeps(RICH, "judge(0, 0)", x -> x.judge(0, 0), 0);
        keeps(RICH, "judge(0, 1)", x -> x.judge(0, 1), NEVER);
        keeps(RICH, "judge(0, 2)", x -> x.judge(0, 2), 0);
        keeps(RICH, "judge(0, 4)", x -> x.judge(0, 4), 100);
    }

    private static void image() {
        sentence("`int image()`: THE IMAGE is taken: how many HEADS there are.");
        int[] sizes = {0, 4, 6, 2};
        for (int state = 0; state < STATES; state++) {
            HatterTunes x = made(state);
            due("image()", x.image(), sizes[state]);
            due("image() again", x.image(), sizes[state]);
            due("undo() at once", x.undo(), sizes[state]);
            due("how many", x.count(0), sizes[state]);
        }
    }

    private static void undo() {
        sentence("`int undo()`: All is as THE IMAGE: how many HEADS. STATE: there is none.");
        keeps(FRESH, "undo()", HatterTunes::undo, STATE);
        keeps(OLD, "undo()", HatterTunes::undo, STATE);
        HatterTunes x = rich();
        due("undo()", x.undo(), 4);
        due("YEAR", x.told(0), 0);
        due("GROW", x.told(1), 2);
        due("notes", x.count(7), 2);
        due("SEEN", x.count(2), 0);
        due("PLAN", x.count(3), 0);
        due("BOOK", x.count(4), 0);
        due("SHOPS", x.count(1), 2);
        due("THE TEXT", x.count(5), 3);
        due("bodies", x.count(6), 12);
        due("a TAPE", x.read(0, 3), 7);
        due("undo() again", x.undo(), 4);
        HatterTunes y = crowded();
        due("undo()", y.undo(), 6);
        due("still FULL", y.shop(), FULL);
        due("still there", y.count(5), 100);
    }

    private static void act() {
        sentence("`int act(int head, int act, int x)`: An ACT (0 hums, 1 plays, 2 tells) of a HEAD with x. 0, and no TRACE then: no such HEAD, act.");
        String without = look(rich(), false);
        for (int out : outside(0, 3)) {
            noAct("act(" + out + ", 0, 5)", x -> x.act(out, 0, 5), without);
            noAct("act(" + out + ", 3, 5)", x -> x.act(out, 3, 5), without);
        }
        for (int out : outside(0, 2)) {
            noAct("act(0, " + out + ", 5)", x -> x.act(0, out, 5), without);
            noAct("act(3, " + out + ", 5)", x -> x.act(3, out, 5), without);
        }
        HatterTunes x = rich();
        due("bodies", x.count(6), 12);
        due("no such HEAD", x.act(4, 0, 5), 0);
        due("no TRACE", x.trace(0), NONE);
        due("no bodies", x.count(6), 0);
        due("hums", x.act(3, 0, 5), 8);
        due("bodies", x.count(6), 1);
        due("plays", x.act(3, 1, 5), 8 ^ 6);
        due("bodies", x.count(6), 3);
        due("tells", x.act(3, 2, 5), 2 * (8 ^ 6));
        due("bodies", x.count(6), 4);
        due("no HEADS", new HatterTunes().act(0, 0, 5), 0);
    }

    private static void noAct(String call, Call made, String without) {
        HatterTunes x = rich();
        due(call, made.on(x), 0);
        due("bodies behind " + call, x.count(6), 0);
        due("trace(0) behind " + call, x.trace(0), NONE);
        due("all else behind " + call, look(x, false), without);
    }

    private static void trace() {
        sentence("`int trace(int i)`: THE TRACE's i-th body. NONE.");
        for (int i : outside(0, 11)) {
            keeps(RICH, "trace(" + i + ")", x -> x.trace(i), NONE);
        }
        for (int i : ANY) {
            keeps(FRESH, "trace(" + i + ")", x -> x.trace(i), NONE);
        }
        keeps(RICH, "trace(0)", x -> x.trace(0), 40);
        keeps(RICH, "trace(11)", x -> x.trace(11), 10);
    }

    private static void taken() {
        sentence("`int taken(int head, int k)`: A HEAD taken for one of KIND k (0 .. 6), or one under that: its KIND. BAD: k; NOTHING: no such HEAD; CAST.");
        for (int state = 0; state < STATES; state++) {
            int size = made(state).count(0);
            for (int k : outside(0, 6)) {
                keeps(state, "taken(0, " + k + ")", x -> x.taken(0, k), BAD);
                keeps(state, "taken(6, " + k + ")", x -> x.taken(6, k), BAD);
            }
            for (int head : outside(0, size - 1)) {
                keeps(state, "taken(" + head + ", 0)", x -> x.taken(head, 0), NOTHING);
                keeps(state, "taken(" + head + ", 6)", x -> x.taken(head, 6), NOTHING);
            }
        }
        keeps(RICH, "taken(3, 4): GREAT is above LORD", x -> x.taken(3, 4), CAST);
        keeps(RICH, "taken(2, 1): LORD is under GREAT", x -> x.taken(2, 1), 4);
        keeps(RICH, "taken(0, 0)", x -> x.taken(0, 0), 6);
    }

    private static void count() {
        sentence("`int count(int what)`: How many: 0 HEADS, 1 SHOPS, 2 SEEN, 3 of the PLAN, 4 of the BOOK, 5 bytes of THE TEXT, 6 bodies that ran in "
            + "the latest act() (all, kept or not), 7 notes of THE TUNE. BAD.");
        int[][] counts = {{0, 0, 0, 0, 0, 0, 0, 0}, {4, 2, 2, 3, 2, 3, 12, 3}, {6, 6, 5, 10, 8, 100, 0, 8}, {2, 1, 1, 1, 0, 0, 0, 0}};
        for (int state = 0; state < STATES; state++) {
            for (int what = 0; what < 8; what++) {
                int asked = what;
                keeps(state, "count(" + what + ")", x -> x.count(asked), counts[state][what]);
            }
            for (int what : outside(0, 7)) {
                keeps(state, "count(" + what + ")", x -> x.count(what), BAD);
            }
        }
    }

    private static void tape() {
        sentence("`int tape(int tape, int sort, int n)`: A TAPE becomes a row of n (0 .. 60) of a sort, all 0, or holds nothing (sort -1: n does not "
            + "matter): 1. NONE: tape; BAD: sort, n above 60; SIZE.");
        for (int tape : outside(0, 5)) {
            keeps(RICH, "tape(" + tape + ", 0, 0)", x -> x.tape(tape, 0, 0), NONE);
            keeps(RICH, "tape(" + tape + ", -1, 0)", x -> x.tape(tape, -1, 0), NONE);
            keeps(RICH, "tape(" + tape + ", 5, -1)", x -> x.tape(tape, 5, -1), NONE);
        }
        for (int sort : outside(-1, 4)) {
            keeps(RICH, "tape(0, " + sort + ", 0)", x -> x.tape(0, sort, 0), BAD);
            keeps(RICH, "tape(0, " + sort + ", -1)", x -> x.tape(0, sort, -1), BAD);
            keeps(RICH, "tape(0, " + sort + ", 61)", x -> x.tape(0, sort, 61), BAD);
        }
        for (int n : new int[] {61, 62, 1000, MAX - 1, MAX}) {
            keeps(RICH, "tape(0, 0, " + n + ")", x -> x.tape(0, 0, n), BAD);
            keeps(RICH, "tape(5, 4, " + n + ")", x -> x.tape(5, 4, n), BAD);
        }
        for (int n : new int[] {-1, -2, -1000, MIN + 1, MIN}) {
            keeps(RICH, "tape(0, 0, " + n + ")", x -> x.tape(0, 0, n), SIZE);
            keeps(RICH, "tape(5, 4, " + n + ")", x -> x.tape(5, 4, n), SIZE);
        }
        for (int n : ANY) {
            HatterTunes x = rich();
            due("nothing", x.tape(0, -1, n), 1);
            due("nothing is read", x.read(0, 0), NO);
            due("nothing is there", x.item(0, 0, 1), NOTHING);
            due("nothing again", x.tape(0, -1, n), 1);
        }
        for (int sort = 0; sort < 5; sort++) {
            HatterTunes x = new HatterTunes();
            due("0 items", x.tape(5, sort, 0), 1);
            due("no place", x.item(5, 0, 1), PLACE);
            due("60 items", x.tape(5, sort, 60), 1);
            for (int i = 0; i < 60; i++) {
                due("0", x.read(5, i), 0);
                due("1", x.item(5, i, 1), 1);
            }
            due("no place", x.item(5, 60, 1), PLACE);
            due("none", x.read(5, 60), NO);
            due("30 items", x.tape(5, sort, 30), 1);
            due("all 0", x.read(5, 0), 0);
            due("all 0", x.read(5, 29), 0);
            due("none", x.read(5, 30), NO);
            due("60 items", x.tape(5, sort, 60), 1);
            due("all 0", x.read(5, 59), 0);
        }
    }

    private static void item() {
        sentence("`int item(int tape, int i, long v)`: Item i of a TAPE becomes v (its lowest bits, as many as an item has; booleans: whether v is "
            + "not 0): 1. NONE; NOTHING; PLACE.");
        for (int tape : outside(0, 5)) {
            keeps(RICH, "item(" + tape + ", 0, 1)", x -> x.item(tape, 0, 1), NONE);
            keeps(RICH, "item(" + tape + ", -1, 1)", x -> x.item(tape, -1, 1), NONE);
        }
        for (int i : ANY) {
            keeps(RICH, "item(4, " + i + ", 1)", x -> x.item(4, i, 1), NOTHING);
            keeps(FRESH, "item(0, " + i + ", 1)", x -> x.item(0, i, 1), NOTHING);
            keeps(RICH, "item(3, " + i + ", 1)", x -> x.item(3, i, 1), PLACE);
        }
        for (int i : outside(0, 3)) {
            keeps(RICH, "item(0, " + i + ", 1)", x -> x.item(0, i, 1), PLACE);
        }
        for (int i : outside(0, 59)) {
            keeps(CROWDED, "item(5, " + i + ", 1)", x -> x.item(5, i, 1), PLACE);
        }
        HatterTunes x = rich();
        due("the last", x.item(0, 3, -1), 1);
        due("the last", x.read(0, 3), -1);
        due("the one ahead", x.read(0, 2), 5);
        due("a boolean", x.item(2, 0, NO), 1);
        due("a boolean", x.read(2, 0), 1);
        due("a boolean", x.item(2, 0, 0), 1);
        due("a boolean", x.read(2, 0), 0);
    }

    private static void read() {
        sentence("`long read(int tape, int i)`: Item i of a TAPE. NO: no such TAPE, nothing there, no such place.");
        for (int tape : outside(0, 5)) {
            keeps(RICH, "read(" + tape + ", 0)", x -> x.read(tape, 0), NO);
        }
        for (int i : ANY) {
            keeps(RICH, "read(4, " + i + ")", x -> x.read(4, i), NO);
            keeps(RICH, "read(3, " + i + ")", x -> x.read(3, i), NO);
        }
        for (int i : outside(0, 3)) {
            keeps(RICH, "read(0, " + i + ")", x -> x.read(0, i), NO);
        }
        for (int i : outside(0, 59)) {
            keeps(CROWDED, "read(5, " + i + ")", x -> x.read(5, i), NO);
        }
        keeps(RICH, "read(0, 3)", x -> x.read(0, 3), 7);
        keeps(RICH, "read(1, 0)", x -> x.read(1, 0), Long.MAX_VALUE);
        keeps(RICH, "read(2, 1)", x -> x.read(2, 1), 1);
        keeps(CROWDED, "read(5, 59)", x -> x.read(5, 59), 0);
    }

    private static void shift() {
        sentence("`int shift(int tape, int i, int other, int j, int n)`: n items of a TAPE from i on come to another one (or the same) from j on, as "
            + "they all were before: n. NONE: tapes; NOTHING; CAST: of unlike sorts; PLACE: n, i or j is below 0, or beyond either's end.");
        for (int tape : outside(0, 5)) {
            keeps(RICH, "shift from " + tape, x -> x.shift(tape, 0, 0, 0, 1), NONE);
            keeps(RICH, "shift to " + tape, x -> x.shift(0, 0, tape, 0, 1), NONE);
            keeps(RICH, "shift from " + tape + " to nothing", x -> x.shift(tape, -1, 4, -1, -1), NONE);
            keeps(RICH, "shift from nothing to " + tape, x -> x.shift(4, -1, tape, -1, -1), NONE);
        }
        for (int n : ANY) {
            keeps(RICH, "shift from nothing", x -> x.shift(4, n, 0, n, n), NOTHING);
            keeps(RICH, "shift to nothing", x -> x.shift(0, n, 5, n, n), NOTHING);
            keeps(RICH, "shift of nothing", x -> x.shift(5, n, 5, n, n), NOTHING);
            keeps(RICH, "shift of unlike sorts", x -> x.shift(0, n, 1, n, n), CAST);
            keeps(RICH, "shift of unlike sorts", x -> x.shift(2, n, 3, n, n), CAST);
        }
        for (int i : outside(0, 4)) {
            keeps(RICH, "shift from " + i, x -> x.shift(0, i, 0, 0, 0), PLACE);
            keeps(RICH, "shift to " + i, x -> x.shift(0, 0, 0, i, 0), PLACE);
            keeps(RICH, "shift of " + i, x -> x.shift(0, 0, 0, 0, i), PLACE);
            keeps(RICH, "shift of all " + i, x -> x.shift(0, i, 0, i, i), PLACE);
        }
        keeps(RICH, "shift of 2 from 3", x -> x.shift(0, 3, 0, 0, 2), PLACE);
        keeps(RICH, "shift of 2 to 3", x -> x.shift(0, 0, 0, 3, 2), PLACE);
        keeps(RICH, "shift of 1 from 4", x -> x.shift(0, 4, 0, 0, 1), PLACE);
        keeps(RICH, "shift of 1 to a row of 0", x -> x.shift(0, 0, 3, 0, 1), PLACE);
        keeps(RICH, "shift of 1 from a row of 0", x -> x.shift(3, 0, 0, 0, 1), PLACE);
        keeps(RICH, "shift beyond all numbers", x -> x.shift(0, MAX, 0, 0, MAX), PLACE);
        keeps(RICH, "shift beyond all numbers", x -> x.shift(0, 1, 0, 1, MAX), PLACE);
        keeps(RICH, "shift of 0 at the ends", x -> x.shift(0, 4, 0, 4, 0), 0);
        keeps(RICH, "shift of 0 to a row of 0", x -> x.shift(0, 4, 3, 0, 0), 0);
        keeps(RICH, "shift of 0 from a row of 0", x -> x.shift(3, 0, 0, 4, 0), 0);
        keeps(RICH, "shift of all onto itself", x -> x.shift(0, 0, 0, 0, 4), 4);
        shifted(0, 1, 3, "11235");
        shifted(1, 0, 4, "23455");
        shifted(0, 1, 4, "11234");
        shifted(0, 4, 1, "12341");
        shifted(4, 0, 1, "52345");
        shifted(0, 2, 3, "12123");
        shifted(2, 0, 3, "34545");
        HatterTunes x = new HatterTunes();
        x.tape(0, 3, 60);
        x.tape(1, 3, 60);
        x.item(0, 59, NO);
        due("all 60", x.shift(0, 0, 1, 0, 60), 60);
        due("the last", x.read(1, 59), NO);
        due("the one it came from", x.read(0, 59), NO);
        due("all of 60 from 1", x.shift(0, 1, 1, 0, 60), PLACE);
    }

    private static void shifted(int i, int j, int n, String want) {
        for (int sort = 0; sort < 4; sort++) {
            HatterTunes x = new HatterTunes();
            x.tape(0, sort, 5);
            for (int k = 0; k < 5; k++) {
                x.item(0, k, k + 1);
            }
            due("shift", x.shift(0, i, 0, j, n), n);
            for (int k = 0; k < 5; k++) {
                due("item " + k, x.read(0, k), want.charAt(k) - '0');
            }
        }
    }

    private static void whatIsAskedChangesNothing() {
        sentence("What is answered so changes nothing; what is asked changes nothing.");
        for (int state = 0; state < STATES; state++) {
            HatterTunes x = made(state);
            for (int h = 0; h < 6; h++) {
                x.of(h, 5);
                x.of(h, 6);
                x.of(h, 40 + h);
                x.on(60, h, 20);
                x.shared(h, 5 - h);
                x.can(h, h % 2);
                x.odds(h, h % 2);
                x.mean(10 * h, h % 2);
            }
            x.anthem((1 << x.count(0)) - 1, 0);
            x.ends(0);
            x.ends(1);
            x.looked();
            x.judge(0, 0);
            x.trace(0);
            x.taken(0, 0);
            x.read(0, 0);
            // A crowded one would come to more than 512 calls by a look.
            if (state != CROWDED) {
                due("all behind what was asked in state " + state, look(x), LOOKS[state]);
            } else {
                due("SOUNDS behind what was asked", x.told(0) + " " + x.told(3) + " " + sound(x, 3), "0 42 363436");
            }
        }
    }
}
