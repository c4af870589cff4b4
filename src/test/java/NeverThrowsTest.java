/** Each call with numbers from all over, in states from all over: none throws, each ends, and ever the same answers come. */
public final class NeverThrowsTest {
    private static final int MIN = Integer.MIN_VALUE, MAX = Integer.MAX_VALUE;
    private static final int[] MANY = {MIN, MIN + 1, MIN + 10, -10001, -61, -11, -10, -2, -1, 0, 1, 2, 3, 4, 5, 6, 7, 8, 9, 10, 11, 12, 13,
        15, 16, 17, 20, 25, 30, 35, 40, 45, 46, 59, 60, 61, 63, 64, 127, 128, 9999, 10000, 1 << 30, MAX - 10, MAX - 1, MAX};
    private static final int[] FEW = {MIN, -2, -1, 0, 1, 3, 5, 6, 9, 10, 12, 13, 60, MAX};
    private static final int[] FEWER = {MIN, -1, 0, 1, 5, 60, MAX};

    private static HatterTunes x;
    private static int calls;
    private static int state;
    private static long answers;

    public static void main(String[] args) {
        long first = allStates();
        int made = calls;
        long second = allStates();
        if (first != second) {
            System.out.println("the same calls gave other answers");
            System.exit(1);
        }
        System.out.println(made + " calls threw nothing");
    }

    private static long allStates() {
        calls = 0;
        answers = 0;
        for (state = 0; state < 4; state++) {
            begin();
            withOne();
            withTwo();
            withThree();
            withMore();
        }
        return answers;
    }

    /** An object is used for 512 calls at most: so a new one is made ahead of that. */
    private static void count(long answer) {
        answers = answers * 31 + answer;
        calls++;
        if (calls % 300 == 0) {
            begin();
        }
    }

    private static void begin() {
        x = new HatterTunes();
        for (int k = 0; k < 2 * state; k++) {
            x.head((k + 6) % 7, k);
            x.press(k, k, 9);
            x.note(k);
            x.tape(k, k % 5, 10 * k);
            x.plan(k % 4, k);
            x.book(k, 0);
            x.see(k, k, 2 * k, 0);
        }
        if (state > 1) {
            write("sharp 99 (b<9|!(p>1))&y<9;grow 7");
        }
        if (state > 2) {
            x.image();
            while (x.pass(60) >= 0) {
                continue;
            }
        }
    }

    private static void write(String text) {
        for (int k = 0; k < text.length(); k++) {
            x.feed(text.charAt(k));
        }
        x.shop();
    }

    private static void withOne() {
        for (int a : MANY) {
            count(x.note(a));
            count(x.feed(a));
            count(x.told(a));
            count(x.pass(a));
            count(x.ends(a));
            count(x.trace(a));
            count(x.count(a));
            count(x.shop());
            count(x.looked());
            count(x.image());
            count(x.undo());
        }
    }

    private static void withTwo() {
        for (int a : MANY) {
            for (int b : MANY) {
                count(x.head(a, b));
                count(x.of(a, b));
                count(x.shared(a, b));
                count(x.anthem(a, b));
                count(x.can(a, b));
                count(x.odds(a, b));
                count(x.mean(a, b));
                count(x.plan(a, b));
                count(x.book(a, b));
                count(x.judge(a, b));
                count(x.taken(a, b));
                count(x.read(a, b));
            }
        }
    }

    private static void withThree() {
        for (int a : FEW) {
            for (int b : MANY) {
                for (int c : FEW) {
                    count(x.press(a, b, c));
                    count(x.row(a, b, c));
                    count(x.on(c, a, b));
                    count(x.act(a, c, b));
                    count(x.tape(a, c, b));
                    count(x.item(a, b, c));
                    count(x.item(a, b, c == MIN ? Long.MIN_VALUE : (long) c << 31));
                }
            }
        }
    }

    private static void withMore() {
        for (int a : FEWER) {
            for (int b : FEWER) {
                for (int c : FEW) {
                    for (int d : FEW) {
                        count(x.see(a, b, c, d));
                        count(x.shift(a, c, b, d, 1));
                    }
                    for (int d : FEWER) {
                        for (int e : FEWER) {
                            count(x.shift(a, c, b, d, e));
                        }
                    }
                }
            }
        }
    }
}
