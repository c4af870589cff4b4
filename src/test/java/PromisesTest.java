/** Each promise by hand: ordinary inputs, the edges that the document names, wrong inputs. */
public final class PromisesTest {
    private static final long NO = Long.MIN_VALUE;
    private static int wrong = 0;
    private static int checks = 0;

    public static void main(String[] args) {
        newObject();
        head();
        of();
        pitches();
        press();
        note();
        heard();
        row();
        feed();
        shopFaults();
        shopMeanings();
        shops();
        told();
        pass();
        growing();
        on();
        shared();
        anthem();
        see();
        can();
        odds();
        mean();
        plan();
        ends();
        book();
        judge();
        image();
        act();
        taken();
        count();
        tape();
        item();
        shift();
        System.out.println(wrong == 0 ? checks + " answers are as due" : wrong + " answers are not as due");
        if (wrong != 0) {
            System.exit(1);
        }
    }

    private static void due(String call, long got, long want) {
        checks++;
        if (got != want) {
            wrong++;
            System.out.println(call + " answered " + got + ", due is " + want);
        }
    }

    private static HatterTunes withHeads(int... kindsAndNumbers) {
        HatterTunes x = new HatterTunes();
        for (int k = 0; k < kindsAndNumbers.length; k += 2) {
            due("head", x.head(kindsAndNumbers[k], kindsAndNumbers[k + 1]), k / 2);
        }
        return x;
    }

    private static int shop(HatterTunes x, String text) {
        for (int k = 0; k < text.length(); k++) {
            due("feed in " + text, x.feed(text.charAt(k)), k + 1);
        }
        int answer = x.shop();
        due("THE TEXT behind " + text, x.count(5), answer == HatterTunes.FULL ? text.length() : 0);
        return answer;
    }

    private static void tune(HatterTunes x, String notes) {
        due("note(-1)", x.note(-1), 0);
        for (int k = 0; k < notes.length(); k++) {
            due("note in " + notes, x.note(notes.charAt(k) - '0'), k + 1);
        }
    }

    private static void bumps(HatterTunes x, int head, String bumps) {
        for (int b = 0; b < 6; b++) {
            x.press(head, b, bumps.charAt(b) - '0');
            due("BUMP as pressed", x.of(head, 10 + b), bumps.charAt(b) - '0');
        }
    }

    // Promise 1, and the constants.
    private static void newObject() {
        HatterTunes x = new HatterTunes();
        for (int what = 0; what < 8; what++) {
            due("new count(" + what + ")", x.count(what), 0);
        }
        for (int what = 0; what < 4; what++) {
            due("new told(" + what + ")", x.told(what), 0);
        }
        due("new undo()", x.undo(), -3);
        due("new trace(0)", x.trace(0), -1);
        due("new looked()", x.looked(), -5);
        due("new item()", x.item(0, 0, 1), -11);
        due("NONE", HatterTunes.NONE, -1);
        due("BAD", HatterTunes.BAD, -2);
        due("STATE", HatterTunes.STATE, -3);
        due("FULL", HatterTunes.FULL, -4);
        due("NO", HatterTunes.NO, Long.MIN_VALUE);
    }

    // Promise 2.
    private static void head() {
        HatterTunes x = new HatterTunes();
        due("head(-1, 0)", x.head(-1, 0), -1);
        due("head(7, 10)", x.head(7, 10), -1);
        due("head(0, -1)", x.head(0, -1), -2);
        due("head(6, 10)", x.head(6, 10), -2);
        due("count(0)", x.count(0), 0);
        for (int h = 0; h < 6; h++) {
            due("head", x.head(h + 1, 9 - h), h);
        }
        due("head(0, 0) of 7", x.head(0, 0), -4);
        due("head(0, 10) of 7", x.head(0, 10), -2);
        due("head(7, 0) of 7", x.head(7, 0), -1);
        due("kind", x.of(5, 0), 6);
        due("v", x.of(5, 1), 4);
        due("age", x.of(5, 2), 0);
    }

    // Promise 3, its numbers.
    private static void of() {
        HatterTunes x = withHeads(0, 3);
        int[] none = {-100, -40, -10, -5, -1, 7, 8, 9, 16, 19, 26, 29, 36, 39, 46, 50, 100, Integer.MIN_VALUE, Integer.MAX_VALUE};
        for (int what : none) {
            due("of(0, " + what + ")", x.of(0, what), -10001);
        }
        due("of(1, 0)", x.of(1, 0), -10001);
        due("of(-1, 0)", x.of(-1, 0), -10001);
        bumps(x, 0, "102030");
        due("SOUND", x.of(0, 3), 102030);
        due("BUMP 2", x.of(0, 12), 2);
        due("NOTE 4", x.of(0, 24), 3);
        due("PITCH 4", x.of(0, 34), 3);
        due("BUMPS 5 with none SEEN", x.of(0, 45), 1023);
        tune(x, "03");
        due("HEARD", x.of(0, 4), 3);
        due("WHEN", x.of(0, 5), 0);
        due("PRESS", x.of(0, 6), 0);
        tune(x, "77");
        due("not HEARD", x.of(0, 4), -5);
        due("not WHEN", x.of(0, 5), -5);
        due("not PRESS", x.of(0, 6), -5);
        tune(x, "73");
        due("PRESS 3", x.of(0, 6), 37);
        due("nothing pressed", x.of(0, 3), 102030);
        due("shop", shop(x, "sharp 9 y=1;flat 2 y=2"), 0);
        tune(x, "991929");
        due("WHEN 1", x.of(0, 5), -5);
        tune(x, "919293");
        due("WHEN 1", x.of(0, 5), -5);
        tune(x, "091929");
        due("WHEN of one YEAR", x.of(0, 5), 1);
        due("no YEAR gone", x.told(0), 0);
        tune(x, "880818");
        due("WHEN of two YEARS", x.of(0, 5), -5);
        tune(x, "980818");
        due("WHEN of two YEARS", x.of(0, 5), 2);

        HatterTunes y = withHeads(0, 0);
        due("shop", shop(y, "grow 59"), 0);
        tune(y, "100001");
        due("WHEN of 60 YEARS", y.of(0, 5), 60);
        due("shop", shop(y, "grow 60"), 1);
        tune(y, "200000");
        due("not within 60 YEARS", y.of(0, 5), -5);
        y.pass(1);
        due("WHEN of 60 YEARS from 1 on", y.of(0, 5), 60);
    }

    // The Terms' PITCH of each KIND, and NOTE.
    private static void pitches() {
        HatterTunes x = withHeads(0, 7, 1, 7, 2, 7, 3, 4, 4, 7, 5, 7);
        for (int h = 0; h < 6; h++) {
            bumps(x, h, "567895");
        }
        due("HEAD", x.of(0, 3), 567895);
        due("GREAT's PITCH", x.of(1, 34), 16);
        due("GREAT", x.of(1, 3), 234562);
        due("SMALL", x.of(2, 3), 233442);
        due("DEAF", x.of(3, 3), 567805);
        due("LORD's PITCH at an even BUMP", x.of(4, 34), 16);
        due("LORD's PITCH at an odd BUMP", x.of(4, 33), 30);
        due("LORD", x.of(4, 3), 264064);
        due("BOY", x.of(5, 3), 233442);
        due("pass", x.pass(4), 4);
        due("BOY of 4", x.of(5, 3), 677886);
        due("pass", x.pass(5), 9);
        due("BOY of 9", x.of(5, 35), 11);
        due("pass", x.pass(1), 10);
        due("BOY of 10", x.of(5, 35), 11);
        due("flat", shop(x, "flat 18 b>0"), 0);
        due("HEAD below 0", x.of(0, 30), -13);
        due("HEAD's NOTE", x.of(0, 20), 7);
        due("SMALL cut toward 0", x.of(2, 30), -6);
        due("SMALL's NOTE", x.of(2, 20), 4);
        due("LORD below 0", x.of(4, 31), -10);
        due("LORD's NOTE", x.of(4, 21), 0);
        due("BOY below 0", x.of(5, 30), 3);
        due("DEAF at v", x.of(3, 34), 0);

        HatterTunes y = withHeads(6, 2);
        bumps(y, 0, "123456");
        for (int part = 0; part < 4; part++) {
            y.row(0, part, 3 * part);
        }
        due("TOLD in 0", y.of(0, 3), 120456);
        y.pass(1);
        due("TOLD in 1", y.of(0, 3), 453789);
        y.pass(2);
        due("TOLD's PITCH at v", y.of(0, 32), 9);
        due("TOLD's PITCH", y.of(0, 35), 15);
        y.pass(1);
        due("TOLD in 4", y.of(0, 3), 120456);
    }

    // Promise 4.
    private static void press() {
        HatterTunes x = withHeads(0, 0);
        due("press", x.press(0, 5, 9), 0);
        due("press again", x.press(0, 5, 0), 9);
        due("press", x.press(0, 0, 4), 0);
        due("no HEAD", x.press(1, 0, 0), -1);
        due("no HEAD", x.press(-1, 0, 0), -1);
        due("no BUMP", x.press(0, 6, 10), -1);
        due("no BUMP", x.press(0, -1, 0), -1);
        due("BAD", x.press(0, 0, 10), -2);
        due("BAD", x.press(0, 0, -1), -2);
        due("nothing changed", x.of(0, 3), 400000);
    }

    // Promise 5.
    private static void note() {
        HatterTunes x = new HatterTunes();
        for (int k = 0; k < 8; k++) {
            due("note", x.note(9 - k), k + 1);
        }
        due("note of 9", x.note(0), -4);
        due("BAD note of 9", x.note(10), -2);
        due("note(-2)", x.note(-2), -2);
        for (int k = 0; k < 8; k++) {
            due("told(10 + k)", x.told(10 + k), 9 - k);
        }
        due("note(-1)", x.note(-1), 0);
        due("told(10)", x.told(10), -1);
        due("count(7)", x.count(7), 0);
        due("note", x.note(0), 1);
    }

    private static void heard() {
        HatterTunes x = withHeads(0, 0);
        bumps(x, 0, "121212");
        tune(x, "");
        due("no notes", x.of(0, 4), 0);
        tune(x, "2");
        due("2", x.of(0, 4), 1);
        tune(x, "21");
        due("21", x.of(0, 4), 1);
        tune(x, "121212");
        due("121212", x.of(0, 4), 0);
        tune(x, "1212121");
        due("7 notes", x.of(0, 4), -5);
        due("7 notes pressed", x.of(0, 6), -5);
        tune(x, "12121212");
        due("8 notes", x.of(0, 4), -5);
        bumps(x, 0, "000012");
        tune(x, "012");
        due("at the end", x.of(0, 4), 3);
        tune(x, "120");
        due("not beyond the end", x.of(0, 4), -5);
        bumps(x, 0, "001200");
        tune(x, "0012");
        due("0 ahead", x.of(0, 4), 0);
        tune(x, "00");
        due("least place", x.of(0, 4), 0);
    }

    // Promise 6.
    private static void row() {
        HatterTunes x = withHeads(6, 0, 3, 0);
        due("row", x.row(0, 3, 9), 0);
        due("row again", x.row(0, 3, 1), 9);
        due("no HEAD", x.row(2, 0, 0), -1);
        due("no HEAD", x.row(-1, 0, 0), -1);
        due("no part", x.row(0, 4, 0), -1);
        due("no part", x.row(1, -1, 10), -1);
        due("BAD", x.row(0, 0, 10), -2);
        due("BAD ahead of STATE", x.row(1, 0, -1), -2);
        due("STATE", x.row(1, 0, 0), -3);
        due("kept", x.row(0, 3, 0), 1);
    }

    // Promise 7.
    private static void feed() {
        HatterTunes x = new HatterTunes();
        due("feed(-1)", x.feed(-1), -2);
        due("feed(128)", x.feed(128), -2);
        due("feed(0)", x.feed(0), 1);
        for (int k = 1; k < 100; k++) {
            due("feed", x.feed(127), k + 1);
        }
        due("feed of 101", x.feed(1), -4);
        due("BAD feed of 101", x.feed(128), -2);
        due("count(5)", x.count(5), 100);
        due("shop", x.shop(), -10);
        due("feed behind", x.feed(1), 1);
    }

    private static void fault(String text, int place) {
        HatterTunes x = new HatterTunes();
        due("shop of [" + text + "]", shop(x, text), place < 0 ? 0 : -10 - place);
        due("SHOPS behind [" + text + "]", x.count(1), place < 0 ? 1 : 0);
    }

    // Promise 8, the FAULT.
    private static void shopFaults() {
        fault("", 0);
        fault("x", 0);
        fault(" grow 1", 0);
        fault("Grow 1", 0);
        fault("s", 1);
        fault("sharp", 5);
        fault("sharp1 p=1", 5);
        fault("sharp  1 p=1", 6);
        fault("sharp x p=1", 6);
        fault("sharp 1", 7);
        fault("sharp 1;", 7);
        fault("sharp 12p=1", 8);
        fault("sharp 123 p=1", 8);
        fault("sharp 1  p=1", 8);
        fault("sharp 1 ", 8);
        fault("sharp 1 q=1", 8);
        fault("sharp 1 p", 9);
        fault("sharp 1 p!1", 9);
        fault("sharp 1 p=", 10);
        fault("sharp 1 p==", 10);
        fault("sharp 1 p=a", 10);
        fault("sharp 1 p=123", 12);
        fault("sharp 1 p=1 ", 11);
        fault("sharp 1 p=1)", 11);
        fault("sharp 1 p=1|", 12);
        fault("sharp 1 p=1||p=1", 12);
        fault("sharp 1 p=1&", 12);
        fault("sharp 1 p=1&|p=1", 12);
        fault("sharp 1 p=1&p=1", -1);
        fault("sharp 1 p=1p=1", 11);
        fault("sharp 1 ()", 9);
        fault("sharp 1 (p=1", 12);
        fault("sharp 1 (p=1))", 13);
        fault("sharp 1 (p=1;", 12);
        fault("sharp 1 (p=1)p", 13);
        fault("sharp 1 !", 9);
        fault("sharp 1 p!=1", 9);
        fault("flat 7 !!!!p=1", -1);
        fault("flat 7 !!!!!p=1", 11);
        fault("flat 7 ((((p=1))))", -1);
        fault("flat 7 (((((p=1)))))", 11);
        fault("flat 7 !(!(p=1))", -1);
        fault("flat 7 !(!((p=1)))", 11);
        fault("flat 7 !(!(!p=1))", 11);
        fault("flat 7 !!!!p=1&!!!!p=1|((((p=1))))", -1);
        fault("flat 7 (((!p=1&!p=2)))", -1);
        fault("flat 7 (((!p=1&!!p=2)))", 16);
        fault("fla 7", 3);
        fault("flatter 7", 4);
        fault("grow", 4);
        fault("grow ", 5);
        fault("grow x", 5);
        fault("grow 1", -1);
        fault("grow 12", -1);
        fault("grow 123", 7);
        fault("grow 1 p=1", 6);
        fault("grow 1;", 7);
        fault("grow 1; grow 2", 7);
        fault("grow 1;;", 7);
        fault(";", 0);
        fault("grow 1;shar", 11);
        fault("grow 0;grow 1;grow 2;grow 3;grow 4;grow 5;grow 6;grow 7;grow 8;grow 9", -1);
        fault("grow 0;grow 1;grow 2;grow 3;grow 4;grow 5;grow 6;grow 7;grow 8;grow 9;", 69);
        fault("grow 0;grow 1;grow 2;grow 3;grow 4;grow 5;grow 6;grow 7;grow 8;grow 99;grow 1", 70);
        fault("sharp 1 p=1&p=1&p=1&p=1&p=1&p=1&p=1&p=1&p=1&p=1&p=1&p=1&p=1&p=1&p=1&p=1&p=1&p=1&p=1&p=1&p=1&p=1&p=10", -1);
        fault("sharp 1 p=1&p=1&p=1&p=1&p=1&p=1&p=1&p=1&p=1&p=1&p=1&p=1&p=1&p=1&p=1&p=1&p=1&p=1&p=1&p=1&p=1&p=1&p=1&", 100);
    }

    private static void notes(String text, int year, String want) {
        HatterTunes x = withHeads(1, 0, 0, 5, 2, 9);
        bumps(x, 1, "012345");
        x.pass(year);
        due("shop", shop(x, text), 0);
        due("SOUND by " + text, x.of(1, 3), Integer.parseInt(want));
    }

    // Promise 8, what is meant.
    private static void shopMeanings() {
        notes("sharp 1 p=1", 0, "123456");
        notes("sharp 1 p=0", 0, "012345");
        notes("sharp 1 k=0", 0, "123456");
        notes("sharp 1 k>0", 0, "012345");
        notes("sharp 1 v=5", 0, "123456");
        notes("sharp 1 v<5", 0, "012345");
        notes("sharp 5 i<2", 0, "562345");
        notes("sharp 5 i>4", 0, "012340");
        notes("sharp 5 b=03", 0, "012845");
        notes("sharp 5 b<30", 0, "567890");
        notes("sharp 5 y=3", 13, "567890");
        notes("sharp 5 y=13", 13, "012345");
        notes("flat 3 i>2", 0, "012012");
        notes("flat 9 i<2;sharp 09 i=5", 0, "122344");
        notes("flat 99 i=0", 0, "112345");
        notes("sharp 1 i=1;sharp 1 i<3;flat 2 i=0", 0, "933345");
        notes("sharp 5 !i=0", 0, "067890");
        notes("sharp 5 !i=0&i<3", 0, "067345");
        notes("sharp 5 !(i=0|i<3)", 0, "012890");
        notes("sharp 5 i=0|i=1&i=2|i=3", 0, "512845");
        notes("sharp 5 (i=0|i=1)&(i=1|i=2)", 0, "062345");
        notes("sharp 5 i=1&i=2|i=5", 0, "012340");
        notes("sharp 5 i=1&p=1&v=5", 0, "062345");
        notes("sharp 5 i=1|i=2|i=3", 0, "067845");
        notes("sharp 5 p=1&(i=1|!(i<4))", 0, "062390");
        notes("sharp 5 !!i=1", 0, "062345");
        notes("sharp 0 p=1", 0, "012345");
    }

    // Promise 8, which SHOP holds.
    private static void shops() {
        HatterTunes x = withHeads(0, 0);
        due("first", shop(x, "sharp 3 p=0;grow 7"), 0);
        due("SOUND", x.of(0, 3), 333333);
        due("GROW", x.told(1), 7);
        due("FAULT", shop(x, "sharp 4 p=0;grow 9;"), -29);
        due("SOUND by the one that held", x.of(0, 3), 333333);
        due("GROW by the one that held", x.told(1), 7);
        due("second", shop(x, "grow 3;sharp 2 p=0;grow 5"), 1);
        due("SOUND", x.of(0, 3), 222222);
        due("the last GROW", x.told(1), 5);
        due("third", shop(x, "flat 1 p=0"), 2);
        due("no GROW", x.told(1), 0);
        due("fourth", shop(x, "grow 1"), 3);
        due("fifth", shop(x, "grow 2"), 4);
        due("sixth", shop(x, "grow 3"), 5);
        due("seventh", shop(x, "grow 4"), -4);
        due("THE TEXT stays", x.count(5), 6);
        due("FULL ahead of a FAULT", x.feed(';') + x.shop(), 3);
        due("six", x.count(1), 6);
        due("GROW", x.told(1), 3);
    }

    // Promise 9.
    private static void told() {
        HatterTunes x = withHeads(0, 0, 1, 4, 0, 0);
        due("shop", shop(x, "grow 10"), 0);
        x.pass(3);
        due("YEAR", x.told(0), 3);
        due("GROW", x.told(1), 10);
        due("all HEARD", x.told(2), 7);
        tune(x, "00");
        due("HEARD", x.told(2), 5);
        tune(x, "44");
        due("HEARD", x.told(2), 2);
        due("NOTES, one grown in each", x.told(3), 27);
        due("told(10)", x.told(10), 4);
        due("told(11)", x.told(11), 4);
        int[] none = {-1, 4, 9, 12, 17, 18, Integer.MIN_VALUE, Integer.MAX_VALUE};
        for (int what : none) {
            due("told(" + what + ")", x.told(what), -1);
        }
    }

    // Promise 10.
    private static void pass() {
        HatterTunes x = withHeads(5, 0);
        due("pass(-1)", x.pass(-1), -2);
        due("pass(61)", x.pass(61), -2);
        due("pass(0)", x.pass(0), 0);
        for (int k = 1; k <= 166; k++) {
            due("pass(60)", x.pass(60), 60 * k);
        }
        due("STATE", x.pass(40), -3);
        due("BAD ahead of STATE", x.pass(61), -2);
        due("nothing gone", x.told(0), 9960);
        due("pass(39)", x.pass(39), 9999);
        due("AGE", x.of(0, 2), 9999);
        due("STATE", x.pass(1), -3);
        due("pass(0)", x.pass(0), 9999);
        due("AGE", x.of(0, 2), 9999);
        due("later HEAD", x.head(6, 0), 1);
        due("later AGE", x.of(1, 2), 0);
        // What is asked goes beyond 9999: YEAR 10001 is 1 modulo 10 and modulo 4; 10000 grows 4, and 5 of HEAD 1.
        due("row", x.row(1, 1, 8), 0);
        due("shop", shop(x, "sharp 1 y=1;grow 10"), 0);
        due("on beyond 9999", x.on(2, 1, 20), 899990);
        due("grown in 10000", x.on(2, 1, 15), 1);
        due("grown in 10000", x.on(2, 0, 14), 1);
        due("not yet grown", x.on(1, 0, 14), 0);
        due("plan", x.plan(0, 99), 1);
        due("plan", x.plan(0, -1), 2);
        due("ends in 10001: the BOY 999909, the TOLD one 899990", x.ends(0), 45 + 44);
        due("nothing changed", x.told(0), 9999);
    }

    private static void growing() {
        HatterTunes x = withHeads(0, 0, 0, 0);
        due("shop", shop(x, "grow 2"), 0);
        x.press(0, 0, 9);
        due("pass", x.pass(1), 1);
        due("9 grows to 0", x.of(0, 13) + x.of(0, 10), 0);
        due("head 1 at 1", x.of(1, 3), 10000);
        due("pass", x.pass(1), 2);
        due("no multiple", x.of(1, 3), 10000);
        due("pass", x.pass(3), 5);
        due("head 0 at 2 and 4", x.of(0, 3), 1010);
        due("head 1 at 3 and 5", x.of(1, 3), 10101);
        due("pass", x.pass(2), 7);
        due("head 1 at 6 modulo 6", x.of(1, 3), 20101);
        due("AGE", x.of(0, 2), 7);
    }

    // Promise 11.
    private static void on() {
        HatterTunes x = withHeads(0, 0, 5, 0);
        due("shop", shop(x, "grow 1;sharp 2 y=3"), 0);
        due("BUMP", x.on(1, 0, 10), 1);
        due("BUMP", x.on(0, 0, 10), 0);
        due("BUMP", x.on(7, 0, 10), 2);
        due("NOTE", x.on(3, 0, 2), 3);
        due("NOTE", x.on(3, 0, 5), 2);
        due("SOUND", x.on(3, 0, 20), 333222);
        due("SOUND of a BOY", x.on(3, 1, 20), 444444);
        due("60", x.on(60, 0, 15), 0);
        due("59", x.on(59, 0, 14), 0);
        due("nothing changed", x.told(0) + x.of(0, 3) + x.of(1, 2), 0);
        int[] none = {-1, 6, 9, 16, 19, 21, Integer.MIN_VALUE, Integer.MAX_VALUE};
        for (int what : none) {
            due("on(0, 0, " + what + ")", x.on(0, 0, what), -1);
        }
        due("no HEAD", x.on(0, 2, 0), -1);
        due("no HEAD", x.on(0, -1, 0), -1);
        due("NONE ahead of BAD", x.on(61, 0, 6), -1);
        due("BAD", x.on(61, 0, 0), -2);
        due("BAD", x.on(-1, 0, 20), -2);
    }

    // Promise 12.
    private static void shared() {
        HatterTunes x = withHeads(0, 0, 0, 0, 0, 0);
        bumps(x, 0, "123412");
        bumps(x, 1, "412121");
        bumps(x, 2, "000123");
        due("0 and 1", x.shared(0, 1), 3);
        due("1 and 0", x.shared(1, 0), 1);
        due("0 and 0", x.shared(0, 0), 6);
        due("2 and 0", x.shared(2, 0), 3);
        due("1 and 2", x.shared(1, 2), 0);
        due("0 and 2", x.shared(0, 2), 0);
        bumps(x, 1, "123412");
        due("alike", x.shared(0, 1), 6);
        due("NONE", x.shared(3, 0), -1);
        due("NONE", x.shared(0, 3), -1);
        due("NONE", x.shared(-1, 0), -1);
    }

    // Promise 13.
    private static void anthem() {
        HatterTunes x = withHeads(0, 0, 0, 0, 0, 0);
        bumps(x, 0, "333112");
        bumps(x, 1, "444333");
        bumps(x, 2, "112444");
        due("all", x.anthem(7, -1), 12);
        due("the first of several", x.anthem(7, 0) * 100 + x.anthem(7, 1) * 10 + x.anthem(7, 2), 21);
        due("beyond", x.anthem(7, 3), -5);
        due("beyond", x.anthem(7, 5), -5);
        due("two", x.anthem(3, -1), 9);
        due("two", x.anthem(3, 0), 1);
        due("two", x.anthem(3, 1), 0);
        due("two", x.anthem(3, 2), -5);
        due("one", x.anthem(4, -1), 6);
        due("one", x.anthem(4, 0), 2);
        due("none", x.anthem(0, -1), 0);
        due("none", x.anthem(0, 0), -5);
        due("BAD", x.anthem(8, -1), -2);
        due("BAD", x.anthem(-1, 0), -2);
        due("BAD", x.anthem(Integer.MIN_VALUE, 0), -2);
        due("NONE", x.anthem(7, 6), -1);
        due("NONE ahead of BAD", x.anthem(8, -2), -1);
        HatterTunes y = withHeads(0, 0, 0, 0, 0, 0, 0, 0, 0, 0, 0, 0);
        String[] sounds = {"500000", "400005", "300004", "200003", "100002", "900001"};
        for (int h = 0; h < 6; h++) {
            bumps(y, h, sounds[h]);
        }
        due("six", y.anthem(63, -1), 31);
        for (int k = 0; k < 6; k++) {
            due("six", y.anthem(63, k), 5 - k);
        }
    }

    // Promise 14, and BUMPS of one.
    private static void see() {
        HatterTunes x = withHeads(0, 0, 2, 0);
        due("see", x.see(0, 0, 0, 3), 1);
        due("BUMPS", x.of(0, 40), 8);
        due("another BUMP, which is not so", x.of(0, 41), 0);
        due("another HEAD", x.of(1, 40), 1023);
        due("see(-1)", x.see(-1, 99, 99, 99), 0);
        due("see", x.see(0, 1, 12, 0), 1);
        due("another BUMP, which is so", x.of(0, 40), 1023);
        due("a BUMP", x.of(0, 41), 1);
        due("see", x.see(1, 2, 5, 3), 2);
        due("half", x.of(1, 42), 3 << 6);
        due("see", x.see(1, 2, 5, 4), 3);
        due("both can't be", x.of(1, 42), 0);
        due("see", x.see(1, 2, 5, 4), 4);
        due("see", x.see(1, 2, 5, 4), 5);
        due("FULL", x.see(1, 2, 5, 4), -4);
        due("BAD", x.see(1, 2, 13, 4), -2);
        due("BAD", x.see(1, 2, -1, 4), -2);
        due("BAD", x.see(1, 2, 0, 10), -2);
        due("BAD", x.see(1, 2, 0, -1), -2);
        due("NONE", x.see(1, 6, 13, 0), -1);
        due("NONE", x.see(1, -1, 13, 0), -1);
        due("NONE", x.see(2, 0, 0, 0), -1);
        due("NONE", x.see(-2, 0, 0, 0), -1);
        due("count(2)", x.count(2), 5);
        due("see(-1)", x.see(-1, 0, 0, 0), 0);
        due("shop", shop(x, "grow 1;sharp 1 b>5"), 0);
        due("see", x.see(0, 2, 3, 7), 1);
        due("grown and sharp", x.of(0, 42), 1 << 5);
        due("see", x.see(0, 2, 2, 5), 2);
        due("ahead of growing", x.of(0, 42), 1 << 5);
        due("a YEAR goes", x.pass(1), 1);
        due("from now on", x.of(0, 42), 0);
    }

    // Promise 15.
    private static void can() {
        HatterTunes x = withHeads(1, 0, 0, 0, 3, 0);
        due("none SEEN", x.can(0, 0), 10);
        due("none SEEN", x.can(0, 1), 0);
        x.press(0, 3, 6);
        x.see(0, 3, 2, 4);
        due("one", x.can(0, 0), 1);
        due("the least", x.can(0, 1), 8);
        x.see(0, 2, 0, 1);
        due("none", x.can(0, 0), 0);
        due("none", x.can(0, 1), -5);
        due("another HEAD", x.can(1, 0), 10);
        due("v stays", x.of(0, 1), 0);
        x.press(2, 4, 6);
        x.see(2, 4, 0, 6);
        due("DEAF", x.can(2, 0), 9);
        x.see(2, 5, 0, 0);
        due("DEAF", x.can(2, 0), 9);
        due("DEAF", x.can(2, 1), 0);
        due("NONE", x.can(3, 0), -1);
        due("NONE", x.can(-1, 0), -1);
        due("NONE", x.can(0, 2), -1);
        due("NONE", x.can(0, -1), -1);
    }

    // Promise 16.
    private static void odds() {
        HatterTunes x = withHeads(0, 0, 2, 0);
        due("no notes", x.odds(0, 0), 1);
        due("no notes", x.odds(0, 1), 1);
        tune(x, "7");
        due("above", x.odds(0, 0), 1);
        due("below", x.odds(0, 1), 10);
        due("SMALL", x.odds(1, 0), 0);
        due("SMALL", x.odds(1, 1), 1);
        tune(x, "70");
        due("above", x.odds(0, 0), 1);
        due("below", x.odds(0, 1), 12);
        tune(x, "000000");
        due("above", x.odds(0, 0), 1);
        due("below", x.odds(0, 1), 10);
        due("above", x.odds(1, 0), 1);
        due("below", x.odds(1, 1), 5);
        x.press(0, 3, 1);
        due("above", x.odds(0, 0), 1);
        due("below", x.odds(0, 1), 60);
        due("NO", x.odds(2, 0), NO);
        due("NO", x.odds(-1, 0), NO);
        due("NO", x.odds(0, 2), NO);
        due("NO", x.odds(0, -1), NO);
        due("nothing pressed", x.of(0, 3), 100);
    }

    // Promise 17.
    private static void mean() {
        HatterTunes x = new HatterTunes();
        due("no HEADS", x.mean(0, 0), NO);
        due("no HEADS", x.mean(0, 1), NO);
        x.head(0, 0);
        due("0", x.mean(0, 0), 0);
        due("of 1", x.mean(0, 1), 1);
        bumps(x, 0, "123456");
        due("21", x.mean(5, 0), 7);
        due("of 6", x.mean(5, 1), 2);
        x.head(0, 0);
        due("21", x.mean(60, 0), 7);
        due("of 12", x.mean(60, 1), 4);
        due("shop", shop(x, "grow 4"), 0);
        due("23", x.mean(3, 0), 23);
        due("of 12", x.mean(3, 1), 12);
        due("25", x.mean(5, 0), 25);
        due("nothing changed", x.told(0), 0);
        due("NO", x.mean(61, 0), NO);
        due("NO", x.mean(-1, 0), NO);
        due("NO", x.mean(0, 2), NO);
        due("NO", x.mean(0, -1), NO);
    }

    // Promise 18.
    private static void plan() {
        HatterTunes x = new HatterTunes();
        due("a YEAR without HEADS", x.plan(0, 77), 1);
        due("no HEAD", x.plan(1, 0), -1);
        x.head(0, 0);
        due("plan", x.plan(1, 0), 2);
        due("plan", x.plan(2, 0), 3);
        due("plan", x.plan(3, 0), 4);
        due("NONE", x.plan(4, 0), -1);
        due("NONE", x.plan(-2, 0), -1);
        due("NONE", x.plan(3, 1), -1);
        due("NONE", x.plan(2, -1), -1);
        for (int k = 5; k <= 10; k++) {
            due("plan", x.plan(0, -1), k);
        }
        due("FULL", x.plan(0, 0), -4);
        due("NONE ahead of FULL", x.plan(1, 1), -1);
        due("count(3)", x.count(3), 10);
        due("plan(-1)", x.plan(-1, 99), 0);
        due("count(3)", x.count(3), 0);
    }

    // Promise 19.
    private static void ends() {
        HatterTunes x = withHeads(0, 0, 5, 0);
        bumps(x, 0, "129999");
        tune(x, "2");
        due("no PLAN", x.ends(0), 39);
        due("no PLAN", x.ends(1), 1);
        due("NONE", x.ends(2), -1);
        due("NONE", x.ends(-1), -1);
        x.plan(3, 0);
        due("each more", x.ends(0), 5);
        x.plan(0, 0);
        x.plan(0, 0);
        due("older", x.ends(0), 17);
        due("older", x.ends(1), 3);
        x.plan(2, 1);
        due("AGE 0", x.ends(0), 5);
        due("AGE 0", x.ends(1), 1);
        x.plan(1, 0);
        due("all 0", x.ends(0), 0);
        due("all 0", x.ends(1), 0);
        due("shop", shop(x, "grow 2"), 0);
        due("grown ahead", x.ends(0), 0);
        x.plan(0, 0);
        due("grown behind: HEAD 1, BOY of 1", x.ends(0), 1 + 6);
        x.plan(-1, 0);
        x.plan(3, 1);
        due("the half of 1", x.ends(0), 39);
        x.plan(3, 1);
        due("the half of 2", x.ends(0), 45);
        due("nothing changed", x.told(3), 39);
        due("nothing changed", x.told(0), 0);
    }

    // Promises 20 and 21.
    private static void book() {
        HatterTunes x = withHeads(0, 0);
        x.pass(4);
        x.head(0, 0);
        due("book", x.book(0, 4), 1);
        due("book", x.book(1, 0), 2);
        due("looked", x.looked(), -5);
        due("book", x.book(0, 5), 3);
        due("book", x.book(1, 9999), 4);
        due("looked", x.looked(), 2);
        x.pass(1);
        due("looked", x.looked(), 0);
        due("BAD", x.book(0, 10000), -2);
        due("BAD", x.book(0, -1), -2);
        due("NONE", x.book(2, 10000), -1);
        due("NONE", x.book(-2, 0), -1);
        for (int k = 5; k <= 8; k++) {
            due("book", x.book(0, 0), k);
        }
        due("FULL", x.book(0, 0), -4);
        due("BAD ahead of FULL", x.book(0, 10000), -2);
        due("count(4)", x.count(4), 8);
        due("book(-1)", x.book(-1, 99999), 0);
        due("looked", x.looked(), -5);
    }

    // Promise 22.
    private static void judge() {
        HatterTunes x = new HatterTunes();
        due("no notes, nothing", x.judge(0, 0), -5);
        due("no notes, below 0", x.judge(5, -7), -5);
        due("NONE", x.judge(6, 0), -1);
        due("NONE", x.judge(-1, 0), -1);
        x.tape(1, 1, 4);
        x.tape(2, 0, 4);
        due("no notes, beyond", x.judge(2, 99), -5);
        due("CAST ahead of no notes", x.judge(1, 0), -12);
        tune(x, "123");
        due("nothing", x.judge(0, 0), 100);
        due("CAST", x.judge(1, 0), -12);
        due("CAST", x.judge(1, -1), -12);
        due("the first", x.judge(2, 0), 0);
        x.item(2, 1, 1);
        x.item(2, 2, 2);
        x.item(2, 3, 3);
        due("told", x.judge(2, 1), -5);
        due("otherwise", x.judge(2, 2), 0);
        x.item(2, 3, 4);
        due("otherwise", x.judge(2, 1), 2);
        x.item(2, 3, 1);
        due("the row ends", x.judge(2, 3), 101);
        due("the row ends", x.judge(2, 4), 100);
        due("beyond", x.judge(2, 5), 100);
        due("beyond", x.judge(2, Integer.MAX_VALUE), 100);
        due("below 0", x.judge(2, -1), 100);
        due("below 0", x.judge(2, Integer.MIN_VALUE), 100);
        x.item(2, 2, 1);
        x.item(2, 3, 2);
        due("the row ends behind two", x.judge(2, 2), 102);
        x.tape(3, 0, 0);
        due("an empty row", x.judge(3, 0), 100);
        for (int sort = 1; sort < 5; sort++) {
            x.tape(4, sort, 3);
            due("CAST", x.judge(4, 0), -12);
        }
        x.tape(4, 0, 1);
        x.item(4, 0, 256 + 1);
        due("lowest bits", x.judge(4, 0), 101);
    }

    // Promises 23 and 24.
    private static void image() {
        HatterTunes x = withHeads(6, 1, 0, 2);
        due("no IMAGE", x.undo(), -3);
        due("first SHOP", shop(x, "sharp 1 p=0"), 0);
        x.row(0, 0, 5);
        x.press(1, 2, 3);
        tune(x, "12");
        x.pass(4);
        x.see(0, 0, 0, 1);
        x.plan(0, 0);
        x.book(0, 1);
        x.tape(0, 0, 3);
        due("image", x.image(), 2);
        due("second SHOP", shop(x, "grow 3"), 1);
        x.row(0, 0, 6);
        x.press(1, 2, 4);
        x.note(3);
        x.pass(7);
        x.see(0, 0, 0, 1);
        x.plan(0, 0);
        x.book(0, 1);
        x.head(5, 9);
        x.press(2, 0, 9);
        x.feed('g');
        x.item(0, 0, 7);
        x.act(0, 0, 0);
        due("undo", x.undo(), 2);
        due("count(0)", x.count(0), 2);
        due("SHOPS stay", x.count(1), 2);
        due("count(2)", x.count(2), 1);
        due("count(3)", x.count(3), 1);
        due("count(4)", x.count(4), 1);
        due("THE TEXT stays", x.count(5), 1);
        due("the latest act() stays", x.count(6), 2);
        due("count(7)", x.count(7), 2);
        due("TAPES stay", x.read(0, 0), 7);
        due("YEAR", x.told(0), 4);
        due("GROW", x.told(1), 0);
        due("the first SHOP holds", x.of(0, 30), 6);
        due("BUMP", x.of(1, 12), 3);
        due("AGE", x.of(1, 2), 4);
        due("ROW", x.row(0, 0, 6), 5);
        due("no third HEAD", x.of(2, 0), -10001);
        due("a third HEAD is new", x.head(6, 0), 2);
        due("its BUMP", x.of(2, 10), 0);
        due("its AGE", x.of(2, 2), 0);
        due("undo again", x.undo(), 2);
        due("ROW again", x.row(0, 0, 7), 5);
        due("a third SHOP's FAULT", x.shop(), -11);
        due("a third SHOP", shop(x, "grow 9"), 2);
        due("GROW", x.told(1), 9);
        due("image", x.image(), 2);
        due("undo", x.undo(), 2);
        due("GROW stays", x.told(1), 9);
        due("ROW stays", x.row(0, 0, 0), 7);

        HatterTunes y = withHeads(6, 0);
        due("image", y.image(), 1);
        due("HEAD", y.head(6, 5), 1);
        y.row(1, 2, 9);
        due("SHOP", shop(y, "grow 2"), 0);
        due("undo", y.undo(), 1);
        due("no SHOP holds", y.told(1), 0);
        due("HEAD", y.head(6, 5), 1);
        due("its ROW is 0", y.row(1, 2, 0), 0);
    }

    private static void traced(HatterTunes x, int head, int act, int number, int answer, int... bodies) {
        String call = "act(" + head + ", " + act + ", " + number + ")";
        due(call, x.act(head, act, number), answer);
        due("bodies of " + call, x.count(6), bodies.length);
        for (int k = 0; k < bodies.length; k++) {
            due(call + " trace(" + k + ")", x.trace(k), bodies[k]);
        }
        due(call + " trace beyond", x.trace(bodies.length), -1);
    }

    // Promises 25 and 26.
    private static void act() {
        HatterTunes x = withHeads(0, 9, 1, 3, 2, 2, 3, 5, 4, 4, 5, 7);
        traced(x, 0, 0, 5, 5, 10);
        traced(x, 0, 1, 5, -4, 11, 10);
        traced(x, 0, 2, 5, -8, 12, 11, 10);
        traced(x, 1, 0, 5, 6, 10);
        traced(x, 1, 1, 5, 3 ^ 6, 20, 11, 10);
        traced(x, 1, 2, 5, 10, 12, 20, 11, 10);
        traced(x, 2, 0, 5, 17, 30, 10);
        traced(x, 2, 1, 5, 15, 11, 30, 10);
        traced(x, 2, 2, 5, 30, 12, 11, 30, 10);
        traced(x, 3, 2, 5, 5, 40, 12, 11, 10, 11, 10);
        traced(x, 3, 1, 5, 3, 11, 10);
        traced(x, 4, 0, 5, -9, 50, 10);
        traced(x, 4, 1, 5, -14 ^ 6, 51, 20, 11, 50, 10);
        traced(x, 4, 2, 5, 2 * (-14 ^ 6), 12, 51, 20, 11, 50, 10);
        traced(x, 5, 0, 5, 20, 30, 10);
        traced(x, 5, 2, 6, 2, 60, 12, 11, 30, 10);
        traced(x, 0, 0, Integer.MAX_VALUE, Integer.MAX_VALUE, 10);
        traced(x, 1, 0, Integer.MAX_VALUE, Integer.MIN_VALUE, 10);
        due("trace(-1)", x.trace(-1), -1);
        due("trace kept", x.trace(0), 10);
        due("no such HEAD", x.act(6, 0, 5), 0);
        due("no TRACE", x.count(6), 0);
        due("no TRACE", x.trace(0), -1);
        traced(x, 0, 0, 5, 5, 10);
        due("no such act", x.act(0, 3, 5), 0);
        due("no TRACE", x.trace(0), -1);
        traced(x, 0, 0, 5, 5, 10);
        due("no such act", x.act(0, -1, 5), 0);
        due("no TRACE", x.count(6), 0);
        due("no such HEAD", x.act(-1, 0, 5), 0);

        HatterTunes y = withHeads(0, 0, 6, 5);
        traced(y, 1, 0, 2, 3 ^ 5, 71, 10);
        traced(y, 1, 1, 2, (3 ^ 5) - 5 + 3, 70, 11, 71, 10, 10);
        int plays = ((3 + 1) ^ 5) - 5;
        traced(y, 1, 2, 3, plays * 2 + 6 + ((2 ^ 5) - 5 + 3),
            40, 12, 70, 11, 71, 10, 10, 70, 11, 71, 10, 10);
    }

    // Promise 27.
    private static void taken() {
        HatterTunes x = withHeads(0, 0, 1, 0, 2, 0, 3, 0, 4, 0, 5, 0);
        int[][] under = {{0}, {0, 1}, {0, 2}, {0, 3}, {0, 1, 4}, {0, 2, 5}};
        for (int h = 0; h < 6; h++) {
            for (int k = 0; k < 7; k++) {
                boolean is = false;
                for (int kind : under[h]) {
                    is |= kind == k;
                }
                due("taken(" + h + ", " + k + ")", x.taken(h, k), is ? h : -12);
            }
        }
        due("BAD", x.taken(0, 7), -2);
        due("BAD ahead of NOTHING", x.taken(6, -1), -2);
        due("NOTHING", x.taken(6, 0), -11);
        due("NOTHING", x.taken(-1, 0), -11);
        HatterTunes y = withHeads(6, 0);
        due("TOLD as TOLD", y.taken(0, 6), 6);
        due("TOLD as DEAF", y.taken(0, 3), 6);
        due("TOLD as HEAD", y.taken(0, 0), 6);
        due("TOLD as GREAT", y.taken(0, 1), -12);
    }

    // Promise 28.
    private static void count() {
        HatterTunes x = withHeads(6, 0, 0, 0);
        shop(x, "grow 1");
        x.see(0, 0, 0, 0);
        x.see(0, 0, 0, 0);
        x.see(0, 0, 0, 0);
        for (int k = 0; k < 4; k++) {
            x.plan(0, 0);
        }
        for (int k = 0; k < 5; k++) {
            x.book(0, 0);
        }
        for (int k = 0; k < 6; k++) {
            x.feed(1);
        }
        for (int k = 0; k < 7; k++) {
            x.note(1);
        }
        x.act(0, 2, 1);
        int[] want = {2, 1, 3, 4, 5, 6, 12, 7};
        for (int what = 0; what < 8; what++) {
            due("count(" + what + ")", x.count(what), want[what]);
        }
        due("count(-1)", x.count(-1), -2);
        due("count(8)", x.count(8), -2);
    }

    // Promise 29.
    private static void tape() {
        HatterTunes x = new HatterTunes();
        for (int sort = 0; sort < 5; sort++) {
            due("tape", x.tape(5, sort, 60), 1);
            due("last", x.read(5, 59), 0);
            due("beyond", x.read(5, 60), NO);
            x.item(5, 59, 1);
        }
        due("none", x.tape(5, 0, 0), 1);
        due("none there", x.read(5, 0), NO);
        due("PLACE, as a row of none is there", x.item(5, 0, 0), -13);
        due("NONE", x.tape(6, 9, -1), -1);
        due("NONE", x.tape(-1, -1, 0), -1);
        due("BAD sort", x.tape(5, 5, -1), -2);
        due("BAD sort", x.tape(5, -2, 0), -2);
        due("BAD n", x.tape(5, 0, 61), -2);
        due("BAD n", x.tape(5, 0, Integer.MAX_VALUE), -2);
        due("SIZE", x.tape(5, 0, -1), -14);
        due("SIZE", x.tape(5, 4, Integer.MIN_VALUE), -14);
        due("still there", x.item(5, 0, 0), -13);
        due("nothing", x.tape(5, -1, Integer.MIN_VALUE), 1);
        due("NOTHING", x.item(5, 0, 0), -11);
        x.tape(5, 0, 2);
        due("nothing again", x.tape(5, -1, 2), 1);
        due("nothing to read", x.read(5, 0), NO);
        due("nothing to shift", x.shift(5, 0, 5, 0, 1), -11);
        x.note(0);
        due("nothing to judge", x.judge(5, 0), 100);
        x.tape(5, 3, 2);
        x.item(5, 0, 9);
        x.tape(5, 3, 2);
        due("all 0", x.read(5, 0), 0);
    }

    // Promises 30 and 31.
    private static void item() {
        HatterTunes x = new HatterTunes();
        long[] numbers = {0, 1, -1, 127, 128, 255, 256, 32767, 32768, 65536, 2147483647L, 2147483648L, 4294967296L, Long.MIN_VALUE, Long.MAX_VALUE};
        for (int sort = 0; sort < 5; sort++) {
            x.tape(sort, sort, 1);
        }
        for (long v : numbers) {
            long[] want = {(byte) v, (short) v, (int) v, v, v == 0 ? 0 : 1};
            for (int sort = 0; sort < 5; sort++) {
                due("item", x.item(sort, 0, v), 1);
                due("sort " + sort + " of " + v, x.read(sort, 0), want[sort]);
            }
        }
        due("NONE", x.item(6, 0, 0), -1);
        due("NONE", x.item(-1, 0, 0), -1);
        due("NOTHING", x.item(5, -1, 0), -11);
        due("PLACE", x.item(0, 1, 0), -13);
        due("PLACE", x.item(0, -1, 0), -13);
        due("PLACE", x.item(0, Integer.MIN_VALUE, 0), -13);
        due("NO", x.read(6, 0), NO);
        due("NO", x.read(-1, 0), NO);
        due("NO", x.read(5, 0), NO);
        due("NO", x.read(0, 1), NO);
        due("NO", x.read(0, -1), NO);
    }

    // Promise 32.
    private static void shift() {
        HatterTunes x = new HatterTunes();
        x.tape(0, 2, 5);
        x.tape(1, 2, 3);
        x.tape(2, 3, 3);
        for (int i = 0; i < 5; i++) {
            x.item(0, i, i + 1);
        }
        due("NONE", x.shift(6, 0, 0, 0, 0), -1);
        due("NONE", x.shift(0, 0, -1, 0, 0), -1);
        due("NOTHING", x.shift(0, 0, 3, 0, -1), -11);
        due("NOTHING", x.shift(3, 0, 0, 0, -1), -11);
        due("CAST", x.shift(0, 0, 2, 0, -1), -12);
        due("PLACE", x.shift(0, 0, 1, 0, -1), -13);
        due("PLACE", x.shift(0, -1, 1, 0, 1), -13);
        due("PLACE", x.shift(0, 0, 1, -1, 1), -13);
        due("PLACE", x.shift(0, 3, 1, 0, 3), -13);
        due("PLACE", x.shift(0, 0, 1, 1, 3), -13);
        due("PLACE", x.shift(0, 6, 1, 0, 0), -13);
        due("PLACE", x.shift(0, 0, 1, 4, 0), -13);
        due("PLACE", x.shift(0, Integer.MAX_VALUE, 1, 0, Integer.MAX_VALUE), -13);
        due("PLACE", x.shift(0, 1, 1, 1, Integer.MAX_VALUE), -13);
        due("PLACE", x.shift(0, Integer.MIN_VALUE, 1, 0, Integer.MIN_VALUE), -13);
        due("none at the ends", x.shift(0, 5, 1, 3, 0), 0);
        due("nothing changed", x.read(1, 0), 0);
        due("to another", x.shift(0, 2, 1, 0, 3), 3);
        for (int i = 0; i < 3; i++) {
            due("item " + i, x.read(1, i), i + 3);
        }
        due("onward", x.shift(0, 0, 0, 1, 4), 4);
        for (int i = 0; i < 5; i++) {
            due("item " + i, x.read(0, i), Math.max(1, i));
        }
        due("back", x.shift(0, 1, 0, 0, 4), 4);
        for (int i = 0; i < 5; i++) {
            due("item " + i, x.read(0, i), Math.min(4, i + 1));
        }
    }
}
