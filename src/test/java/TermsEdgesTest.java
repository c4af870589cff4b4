/** The Terms' sentences 1 and 2: heads, shops, pitches, years, and what is asked of them. */
public final class TermsEdgesTest extends Sentences {
    public static void main(String[] args) {
        headsAsTheyCome();
        kindsUnderKinds();
        theNumberV();
        sixBumps();
        theAge();
        theTune();
        theYear();
        theText();
        clauses();
        blanksAndDigits();
        eitherAndBoth();
        relations();
        letters();
        withinFour();
        faultWhereNoneBeginsSo();
        faultAtTheEnd();
        theNewestHolds();
        growth();
        sum();
        pitchOfHead();
        pitchOfGreat();
        pitchOfSmall();
        pitchOfDeaf();
        pitchOfLord();
        pitchOfBoy();
        pitchOfTold();
        notes();
        sounds();
        growing();
        aging();
        beyondTheLastYear();
        end();
    }

    // ---- heads

    private static void headsAsTheyCome() {
        sentence("HEADS 0 .. 5, as they come, are of KINDS");
        HatterTunes x = new HatterTunes();
        due("of(0, 0) without HEADS", x.of(0, 0), NO_VALUE);
        for (int h = 0; h < 6; h++) {
            due("head", x.head(6 - h, 0), h);
            due("KIND", x.of(h, 0), 6 - h);
            due("the next one", x.of(h + 1, 0), NO_VALUE);
        }
        due("a seventh", x.head(0, 0), FULL);
        due("six", x.count(0), 6);
    }

    private static void kindsUnderKinds() {
        sentence("0 HEAD; 1 GREAT, 2 SMALL, 3 DEAF under HEAD; 4 LORD under GREAT; 5 BOY under SMALL; 6 TOLD under DEAF");
        String[] isOne = {"1000000", "1100000", "1010000", "1001000", "1100100", "1010010", "1001001"};
        for (int kind = 0; kind < 7; kind++) {
            HatterTunes x = heads(kind, 0);
            for (int k = 0; k < 7; k++) {
                due("KIND " + kind + " taken for " + k, x.taken(0, k), isOne[kind].charAt(k) == '1' ? kind : CAST);
            }
        }
        HatterTunes y = new HatterTunes();
        due("KIND -1", y.head(-1, 0), NONE);
        due("KIND 7", y.head(7, 0), NONE);
    }

    private static void theNumberV() {
        sentence("with a number v (0 .. 9)");
        HatterTunes x = new HatterTunes();
        due("v -1", x.head(0, -1), BAD);
        due("v 10", x.head(0, 10), BAD);
        due("v 0", x.head(0, 0), 0);
        due("v 9", x.head(0, 9), 1);
        due("v 0", x.of(0, 1), 0);
        due("v 9", x.of(1, 1), 9);
    }

    private static void sixBumps() {
        sentence("six BUMPS (0 .. 9; 0 at first)");
        HatterTunes x = heads(0, 7);
        due("at first", bumps(x, 0), "000000");
        due("BUMP -1", x.press(0, -1, 0), NONE);
        due("BUMP 6", x.press(0, 6, 0), NONE);
        for (int b = 0; b < 6; b++) {
            due("to 10", x.press(0, b, 10), BAD);
            due("to -1", x.press(0, b, -1), BAD);
            due("to 9", x.press(0, b, 9), 0);
            due("to 0", x.press(0, b, 0), 9);
            due("to b + 1", x.press(0, b, b + 1), 0);
        }
        due("behind", bumps(x, 0), "123456");
    }

    private static void theAge() {
        sentence("an AGE (0 .. 9999; 0 at first)");
        HatterTunes x = heads(0, 0);
        due("at first", x.of(0, 2), 0);
        until(x, 9999);
        due("the greatest", x.of(0, 2), 9999);
        due("a late one", x.head(0, 0), 1);
        due("its AGE", x.of(1, 2), 0);
    }

    private static void theTune() {
        sentence("THE TUNE told by hand: notes (0 .. 9), one behind the other, 8 at most (none at first).");
        HatterTunes x = new HatterTunes();
        due("at first", x.count(7), 0);
        due("no note", x.told(10), NONE);
        due("note 10", x.note(10), BAD);
        for (int k = 0; k < 8; k++) {
            due("note", x.note(k == 0 ? 0 : 10 - k), k + 1);
            due("the next one", x.told(11 + k), NONE);
        }
        due("a ninth", x.note(0), FULL);
        due("the first", x.told(10), 0);
        for (int k = 1; k < 8; k++) {
            due("the next", x.told(10 + k), 10 - k);
        }
        due("no ninth", x.told(18), NONE);
    }

    private static void theYear() {
        sentence("YEAR: 0 at first.");
        HatterTunes x = new HatterTunes();
        due("at first", x.told(0), 0);
        due("without HEADS", x.pass(1), 1);
        due("then", x.told(0), 1);
    }

    // ---- shops

    private static void whole(String text) {
        HatterTunes x = new HatterTunes();
        due("shop of [" + text + "]", shop(x, text), 0);
    }

    private static void fault(String text, int place) {
        HatterTunes x = new HatterTunes();
        due("shop of [" + text + "]", shop(x, text), -10 - place);
        due("no SHOP by [" + text + "]", x.count(1), 0);
    }

    private static void theText() {
        sentence("A SHOP is read from THE TEXT (bytes, 100 at most)");
        String longest = "sharp 1 " + "p=1|".repeat(22) + "p<99";
        due("its length", longest.length(), 100);
        HatterTunes x = heads(0, 0);
        write(x, longest);
        due("the 101st", x.feed('9'), FULL);
        due("how many", x.count(5), 100);
        due("it is none of them", x.shop(), 0);
        due("its end was read", sound(x, 0), "111111");
        String tooShort = "sharp 1 " + "p=1|".repeat(23);
        HatterTunes y = new HatterTunes();
        write(y, tooShort);
        due("the 101st", y.feed('p'), FULL);
        due("ends at 100", y.shop(), -110);
    }

    private static void clauses() {
        sentence("CLAUSES, 1 to 10, with ; between");
        String ten = "grow 1" + ";grow 1".repeat(9);
        fault("", 0);
        whole("grow 1");
        whole(ten);
        fault(ten + ";", 69);
        fault(ten + ";grow 1", 69);
        fault(ten + "x", 69);
        fault("grow 1" + ";grow 1".repeat(8) + ";", 63);
        fault(";", 0);
        fault(";grow 1", 0);
        fault("grow 1;", 7);
        fault("grow 1;;grow 1", 7);
        fault("grow 1grow 1", 6);
        fault("grow 1,grow 1", 6);
        fault("grow 1; grow 1", 7);
        fault("sharp 1 p=1;", 12);
        fault("sharp 1 p=1;flat 1 p=1;", 23);
        whole("sharp 1 p=1;flat 1 p=1");
        HatterTunes x = heads(0, 0);
        holds(x, "flat 1 p<9;".repeat(5) + "grow 1;".repeat(4) + "grow 7");
        due("all five flat", x.of(0, 30), -5);
        due("the tenth", x.told(1), 7);
    }

    private static void blanksAndDigits() {
        sentence("(one blank ahead of each part behind the word; n 1 or 2 digits)");
        fault("sharp1 p=1", 5);
        fault("sharp  1 p=1", 6);
        fault("sharp 1p=1", 7);
        fault("sharp 1  p=1", 8);
        fault("sharp 1 p=1 ", 11);
        fault("sharp 1 p =1", 9);
        fault("sharp 1 p= 1", 10);
        fault("sharp 1 ( p=1)", 9);
        fault("sharp 1 ! p=1", 9);
        fault("sharp 1 p=1 |p=1", 11);
        fault("sharp 1 p=1& p=1", 12);
        fault(" sharp 1 p=1", 0);
        fault("flat1 p=1", 4);
        fault("flat  1 p=1", 5);
        fault("flat 1p=1", 6);
        fault("flat 1  p=1", 7);
        fault("grow1", 4);
        fault("grow  1", 5);
        fault("grow 1 ", 6);
        fault("sharp p=1", 6);
        fault("flat p=1", 5);
        fault("grow ", 5);
        fault("sharp 100 p=1", 8);
        fault("flat 100 p=1", 7);
        fault("grow 100", 7);
        fault("sharp -1 p=1", 6);
        fault("sharp\t1 p=1", 5);
        for (String n : new String[] {"0", "9", "00", "09", "10", "99"}) {
            int number = Integer.parseInt(n);
            HatterTunes x = heads(0, 0);
            holds(x, "sharp " + n + " p=0");
            due("sharp " + n, x.of(0, 30), number);
            holds(x, "flat " + n + " p=0");
            due("flat " + n, x.of(0, 30), -number);
            holds(x, "grow " + n);
            due("grow " + n, x.told(1), number);
        }
    }

    private static void eitherAndBoth() {
        sentence("E: T or T|E. T: F or F&T. F: !F, (E), or a TEST");
        for (int row = 0; row < 8; row++) {
            boolean a = (row & 1) != 0;
            boolean b = (row & 2) != 0;
            boolean c = (row & 4) != 0;
            String[] is = {a ? "p=0" : "p>0", b ? "p<1" : "p<0", c ? "i<9" : "i>9"};
            logic("A", is, a);
            logic("!A", is, !a);
            logic("!!A", is, a);
            logic("(A)", is, a);
            logic("A|B", is, a || b);
            logic("A&B", is, a && b);
            logic("A|B&C", is, a || (b && c));
            logic("A&B|C", is, (a && b) || c);
            logic("(A|B)&C", is, (a || b) && c);
            logic("A&(B|C)", is, a && (b || c));
            logic("!A&B", is, !a && b);
            logic("!A|B", is, !a || b);
            logic("!(A&B)", is, !(a && b));
            logic("!(A|B)&C", is, !(a || b) && c);
            logic("A&!B|!C", is, (a && !b) || !c);
            logic("A|B|C", is, a || b || c);
            logic("A&B&C", is, a && b && c);
            logic("(A&(B|!(C)))|!A&C", is, (a && (b || !c)) || (!a && c));
        }
        fault("sharp 1 p=1|", 12);
        fault("sharp 1 p=1&", 12);
        fault("sharp 1 p=1|&p=1", 12);
        fault("sharp 1 |p=1", 8);
        fault("sharp 1 &p=1", 8);
        fault("sharp 1 ()", 9);
        fault("sharp 1 )", 8);
        fault("sharp 1 (p=1", 12);
        fault("sharp 1 p=1)", 11);
        fault("sharp 1 (p=1)(p=1)", 13);
        fault("sharp 1 p=1!p=1", 11);
    }

    private static void logic(String e, String[] tests, boolean holds) {
        String text = e.replace("A", tests[0]).replace("B", tests[1]).replace("C", tests[2]);
        HatterTunes x = heads(0, 0);
        holds(x, "sharp 1 " + text);
        due(e + " as " + text, x.of(0, 30), holds ? 1 : 0);
    }

    private static void relations() {
        sentence("a TEST: a letter, < or = or >, a number (1 or 2 digits)");
        for (int bump = 0; bump < 10; bump++) {
            for (int n = 0; n < 10; n++) {
                relation(bump, "b<" + n, bump < n);
                relation(bump, "b=" + n, bump == n);
                relation(bump, "b>" + n, bump > n);
            }
            relation(bump, "b<0" + bump, false);
            relation(bump, "b=0" + bump, true);
            relation(bump, "b>0" + bump, false);
            relation(bump, "b<10", true);
            relation(bump, "b=1" + bump, false);
            relation(bump, "b=" + bump + "0", bump == 0);
            relation(bump, "b>99", false);
        }
        fault("sharp 1 b", 9);
        fault("sharp 1 b!1", 9);
        fault("sharp 1 b<=1", 10);
        fault("sharp 1 b=", 10);
        fault("sharp 1 b=-1", 10);
        fault("sharp 1 b=100", 12);
        fault("sharp 1 B=1", 8);
        fault("sharp 1 1=b", 8);
    }

    private static void relation(int bump, String test, boolean holds) {
        HatterTunes x = heads(0, 0);
        x.press(0, 3, bump);
        holds(x, "sharp 20 " + test);
        due("BUMP " + bump + " by " + test, x.of(0, 33), bump + (holds ? 20 : 0));
    }

    private static void letters() {
        sentence("of a HEAD and a BUMP p the number of the one, k its KIND, v its v, i the number (0 .. 5) of the other, "
            + "b that BUMP, y YEAR modulo 10.");
        for (int letter = 0; letter < 6; letter++) {
            for (int n = 0; n <= 10; n++) {
                letter(letter, n);
            }
        }
        HatterTunes x = heads(0, 0);
        holds(x, "sharp 1 y=9;sharp 2 y=0");
        until(x, 9);
        due("y of 9", x.of(0, 30), 1);
        x.pass(1);
        due("y of 10", x.of(0, 30), 2);
        until(x, 9999);
        due("y of 9999", x.of(0, 30), 1);
    }

    /** Six HEADS of unlike numbers; DEAF and TOLD ones hear at all their BUMPS. */
    private static void letter(int letter, int n) {
        int[] vs = {7, 6, 8, 9, 0, 2};
        HatterTunes x = heads(6, 7, 5, 6, 4, 8, 3, 9, 2, 0, 1, 2);
        HatterTunes without = heads(6, 7, 5, 6, 4, 8, 3, 9, 2, 0, 1, 2);
        until(x, 13);
        until(without, 13);
        String text = "sharp 20 " + "pkviby".charAt(letter) + "=" + n;
        holds(x, text);
        for (int h = 0; h < 6; h++) {
            for (int i = 0; i < 6; i++) {
                int bump = (h + 2 * i + 3) % 10;
                x.press(h, i, bump);
                without.press(h, i, bump);
                int[] facts = {h, 6 - h, vs[h], i, bump, 3};
                boolean sharp = x.of(h, 30 + i) != without.of(h, 30 + i);
                due("HEAD " + h + " BUMP " + i + " by " + text, sharp ? 1 : 0, facts[letter] == n ? 1 : 0);
            }
        }
    }

    private static void withinFour() {
        sentence("A ( or ! within 4 others is none.");
        for (int bits = 0; bits < 32; bits++) {
            StringBuilder open = new StringBuilder("sharp 1 ");
            StringBuilder close = new StringBuilder();
            for (int k = 0; k < 5; k++) {
                if (k == 4) {
                    whole(open + "p=1" + close);
                    whole(open + "p=1" + close + "&" + open.substring(8) + "p=1" + close);
                }
                boolean bracket = (bits >> k & 1) == 1;
                open.append(bracket ? '(' : '!');
                close.insert(0, bracket ? ")" : "");
            }
            fault(open + "p=1" + close, 12);
        }
        whole("sharp 1 (((!p=1&!p=2)))");
        whole("sharp 1 (((!p=1|(p=2))))");
        fault("sharp 1 (((!p=1&!!p=2)))", 17);
        fault("sharp 1 (((!p=1|((p=2)))))", 17);
        whole("sharp 1 !p=1&!p=1&!p=1&!p=1&!p=1&!p=1");
        whole("sharp 1 (p=1)|(p=1)|(p=1)|(p=1)|(p=1)|(p=1)");
    }

    /** For each beginning the signs that can follow: each other one of all 128 is the FAULT. */
    private static void faultWhereNoneBeginsSo() {
        sentence("The FAULT: the place of the first byte with which none begins so");
        String digits = "0123456789";
        String factor = "pkviby(!";
        String nine = "grow 1;".repeat(9);
        String[][] follow = {
            {"", "sfg"}, {"s", "h"}, {"sh", "a"}, {"sha", "r"}, {"shar", "p"}, {"f", "l"}, {"fl", "a"}, {"fla", "t"},
            {"g", "r"}, {"gr", "o"}, {"gro", "w"}, {"sharp", " "}, {"flat", " "}, {"grow", " "}, {"sharp ", digits},
            {"flat ", digits}, {"grow ", digits}, {"sharp 1", digits + " "}, {"flat 1", digits + " "},
            {"grow 1", digits + ";"}, {"sharp 12", " "}, {"flat 12", " "}, {"grow 12", ";"}, {"sharp 1 ", factor},
            {"sharp 1 p", "<=>"}, {"sharp 1 p<", digits}, {"sharp 1 p<1", digits + "|&;"}, {"sharp 1 p<12", "|&;"},
            {"sharp 1 (", factor}, {"sharp 1 !", factor}, {"sharp 1 (p=1", digits + "|&)"}, {"sharp 1 (p=12", "|&)"},
            {"sharp 1 (p=1)", "|&;"}, {"sharp 1 ((p=1)", "|&)"}, {"sharp 1 !p=12", "|&;"}, {"sharp 1 !(p=12", "|&)"},
            {"sharp 1 ((!", factor}, {"sharp 1 ((!(", "pkviby"}, {"sharp 1 !!!!", "pkviby"}, {"sharp 1 p=1|", factor},
            {"sharp 1 p=1&", factor}, {"sharp 1 (p=1&", factor}, {"grow 1;", "sfg"}, {"sharp 1 p=1;g", "r"},
            {nine, "sfg"}, {nine + "grow 1", digits}, {nine + "grow 10", ""}, {nine + "flat 1 p=10", "|&"},
        };
        for (String[] row : follow) {
            for (int sign = 0; sign < 128; sign++) {
                followedBy(row[0], (char) sign, row[1].indexOf(sign) >= 0);
            }
        }
    }

    private static void followedBy(String beginning, char sign, boolean can) {
        HatterTunes x = new HatterTunes();
        int answer = shop(x, beginning + sign);
        String call = "shop of [" + beginning + "] and sign " + (int) sign;
        int place = beginning.length();
        if (can) {
            due(call, answer >= 0 ? 1 : answer == -10 - (place + 1) ? 1 : answer, 1);
        } else {
            due(call, answer, -10 - place);
            due("the same, as more follows", shop(x, beginning + sign + "p=1"), -10 - place);
        }
    }

    private static void faultAtTheEnd() {
        sentence("(the end of THE TEXT, if it ends too early)");
        String text = "sharp 12 !(b<10|y=3)&v>07;grow 50;flat 9 !!(k=6)";
        String wholes = " 20 24 25 32 33 48 ";
        for (int length = 0; length <= text.length(); length++) {
            String beginning = text.substring(0, length);
            if (wholes.contains(" " + length + " ")) {
                whole(beginning);
            } else {
                fault(beginning, length);
            }
        }
    }

    private static void theNewestHolds() {
        sentence("The newest SHOP holds (6 at most); without one there are no CLAUSES.");
        HatterTunes x = heads(0, 0);
        bumps(x, 0, "123456");
        due("without", sound(x, 0), "123456");
        x.pass(60);
        due("nothing grows", sound(x, 0), "123456");
        for (int k = 0; k < 6; k++) {
            due("shop " + k, shop(x, "sharp 1 i=" + k), k);
            for (int i = 0; i < 6; i++) {
                due("PITCH by shop " + k, x.of(0, 30 + i), i + 1 + (i == k ? 1 : 0));
            }
        }
        due("a seventh", shop(x, "sharp 9 p=0"), FULL);
        due("the sixth holds", sound(x, 0), "123457");
        due("six", x.count(1), 6);
    }

    private static void growth() {
        sentence("GROW (0 without): the last one's n.");
        HatterTunes x = heads(0, 0);
        due("no SHOP", x.told(1), 0);
        due("a FAULT", shop(x, "grow 9;x"), -17);
        due("by a FAULT", x.told(1), 0);
        holds(x, "sharp 1 p=9");
        due("nothing is left of the FAULT's", x.told(1), 0);
        holds(x, "grow 3;grow 0");
        due("the last is 0", x.told(1), 0);
        holds(x, "grow 0;grow 99");
        due("the last is 99", x.told(1), 99);
        holds(x, "grow 5;sharp 1 p=0;grow 07;flat 1 p=0");
        due("the last is 7", x.told(1), 7);
        due("a FAULT", shop(x, "grow 8;"), -17);
        due("the one that held", x.told(1), 7);
        holds(x, "sharp 1 p=0");
        due("none in the newest", x.told(1), 0);
    }

    private static void sum() {
        sentence("SUM of a HEAD and a BUMP: that BUMP, and the n of all sharp whose E holds, less those of all flat, "
            + "together (may be below 0).");
        HatterTunes x = heads(0, 0, 0, 0);
        bumps(x, 0, "900000");
        due("without a SHOP", x.of(0, 30), 9);
        holds(x, "sharp 99 p=0;sharp 98 p=1;flat 1 p=0;flat 2 i=0;sharp 0 p=0");
        due("9 + 99 - 1 - 2", x.of(0, 30), 105);
        due("99 - 1", x.of(0, 31), 98);
        due("98 - 2", x.of(1, 30), 96);
        holds(x, "flat 99 p=0;".repeat(7) + "flat 99 p=0");
        due("far below 0", x.of(0, 30), -783);
        due("NOTE", x.of(0, 20), 7);
        due("another HEAD", x.of(1, 30), 0);
        holds(x, "sharp 99 p=0;".repeat(6) + "sharp 99 p=0");
        due("far above", x.of(0, 30), 702);
        holds(x, "flat 9 b=9");
        due("to 0", x.of(0, 30), 0);
        holds(x, "flat 10 b=9;flat 1 b=0");
        due("to -1", x.of(0, 30), -1);
        due("by the BUMP, not the SUM", x.of(0, 31), -1);
    }

    // ---- pitches

    private static void pitches(HatterTunes x, int head, int... want) {
        for (int b = 0; b < 6; b++) {
            due("PITCH of BUMP " + b, x.of(head, 30 + b), want[b]);
            due("NOTE of BUMP " + b, x.of(head, 20 + b), Math.floorMod(want[b], 10));
        }
    }

    private static void pitchOfHead() {
        sentence("HEAD: SUM.");
        HatterTunes x = heads(0, 9);
        bumps(x, 0, "012789");
        until(x, 11);
        pitches(x, 0, 0, 1, 2, 7, 8, 9);
        holds(x, "flat 8 p=0");
        pitches(x, 0, -8, -7, -6, -1, 0, 1);
    }

    private static void pitchOfGreat() {
        sentence("GREAT: SUM and v.");
        HatterTunes x = heads(1, 9, 1, 0);
        bumps(x, 0, "012789");
        bumps(x, 1, "012789");
        pitches(x, 0, 9, 10, 11, 16, 17, 18);
        pitches(x, 1, 0, 1, 2, 7, 8, 9);
        holds(x, "flat 11 p=0");
        pitches(x, 0, -2, -1, 0, 5, 6, 7);
    }

    private static void pitchOfSmall() {
        sentence("SMALL: the half (cut toward 0) of SUM.");
        HatterTunes x = heads(2, 9);
        bumps(x, 0, "012389");
        pitches(x, 0, 0, 0, 1, 1, 4, 4);
        holds(x, "flat 3 p=0");
        pitches(x, 0, -1, -1, 0, 0, 2, 3);
        holds(x, "flat 4 p=0");
        pitches(x, 0, -2, -1, -1, 0, 2, 2);
    }

    private static void pitchOfDeaf() {
        sentence("DEAF: SUM; 0, if the number of the BUMP is v.");
        HatterTunes x = heads(3, 0, 3, 5, 3, 6, 3, 9);
        for (int h = 0; h < 4; h++) {
            bumps(x, h, "654321");
        }
        pitches(x, 0, 0, 5, 4, 3, 2, 1);
        pitches(x, 1, 6, 5, 4, 3, 2, 0);
        pitches(x, 2, 6, 5, 4, 3, 2, 1);
        pitches(x, 3, 6, 5, 4, 3, 2, 1);
        holds(x, "flat 9 p<9");
        pitches(x, 0, 0, -4, -5, -6, -7, -8);
    }

    private static void pitchOfLord() {
        sentence("LORD: as GREAT; twice that, if the number of the BUMP is odd.");
        HatterTunes x = heads(4, 2, 4, 9);
        bumps(x, 0, "001199");
        bumps(x, 1, "001199");
        pitches(x, 0, 2, 4, 3, 6, 11, 22);
        pitches(x, 1, 9, 18, 10, 20, 18, 36);
        holds(x, "flat 5 p=0");
        pitches(x, 0, -3, -6, -2, -4, 6, 12);
    }

    private static void pitchOfBoy() {
        sentence("BOY: as SMALL, and AGE (9 at most).");
        HatterTunes x = heads(5, 9);
        bumps(x, 0, "012389");
        pitches(x, 0, 0, 0, 1, 1, 4, 4);
        x.pass(8);
        pitches(x, 0, 8, 8, 9, 9, 12, 12);
        x.pass(1);
        pitches(x, 0, 9, 9, 10, 10, 13, 13);
        x.pass(1);
        pitches(x, 0, 9, 9, 10, 10, 13, 13);
        until(x, 9999);
        pitches(x, 0, 9, 9, 10, 10, 13, 13);
        holds(x, "flat 25 p=0");
        pitches(x, 0, -3, -3, -2, -2, 1, 1);
    }

    private static void pitchOfTold() {
        sentence("TOLD: as DEAF, and its ROW (four numbers 0 .. 9; 0 at first) at YEAR modulo 4 more.");
        HatterTunes x = heads(6, 3, 6, 9);
        bumps(x, 0, "123456");
        pitches(x, 0, 1, 2, 3, 0, 5, 6);
        int[] row = {9, 1, 5, 7};
        for (int part = 0; part < 4; part++) {
            due("at first", x.row(0, part, 10), BAD);
            due("at first", x.row(0, part, -1), BAD);
            due("at first", x.row(0, part, row[part]), 0);
        }
        due("part -1", x.row(0, -1, 0), NONE);
        due("part 4", x.row(0, 4, 0), NONE);
        for (int year = 0; year < 9; year++) {
            int more = row[year % 4];
            pitches(x, 0, 1 + more, 2 + more, 3 + more, more, 5 + more, 6 + more);
            pitches(x, 1, 0, 0, 0, 0, 0, 0);
            x.pass(1);
        }
        until(x, 9999);
        due("YEAR 9999", x.of(0, 33), 7);
        holds(x, "flat 20 p=0");
        due("below 0", x.of(0, 30), -12);
        due("0 and ROW", x.of(0, 33), 7);
    }

    private static void notes() {
        sentence("NOTE: PITCH modulo 10 (0 .. 9, also if it is below 0: -3 gives 7).");
        for (int pitch = -35; pitch <= 35; pitch++) {
            HatterTunes x = heads(0, 0);
            holds(x, pitch < 0 ? "flat " + -pitch + " p=0" : "sharp " + pitch + " p=0");
            due("PITCH", x.of(0, 30), pitch);
            due("NOTE of " + pitch, x.of(0, 20), (pitch + 40) % 10);
        }
        HatterTunes x = heads(0, 0);
        holds(x, "flat 3 p=0");
        due("-3 gives", x.of(0, 25), 7);
    }

    private static void sounds() {
        sentence("SOUND of a HEAD: its six NOTES, by BUMPS, one behind the other.");
        HatterTunes x = heads(0, 0, 4, 1);
        due("all 0", x.of(0, 3), 0);
        bumps(x, 0, "123456");
        due("as they are", x.of(0, 3), 123456);
        bumps(x, 0, "999999");
        due("the greatest", x.of(0, 3), 999999);
        bumps(x, 0, "000001");
        due("0 ahead", x.of(0, 3), 1);
        bumps(x, 0, "100000");
        due("0 behind", x.of(0, 3), 100000);
        bumps(x, 1, "489765");
        due("NOTES, not BUMPS", x.of(1, 3), 580672);
    }

    // ---- years

    private static void growing() {
        sentence("if GROW is above 0 and YEAR a multiple of it, of each HEAD the BUMP (YEAR and its number) modulo 6 is "
            + "1 more (0 behind 9).");
        HatterTunes none = heads(0, 0);
        holds(none, "grow 0");
        none.pass(60);
        due("GROW 0", bumps(none, 0), "000000");

        HatterTunes each = heads(0, 0, 0, 0, 0, 0, 0, 0, 0, 0, 0, 0);
        holds(each, "grow 1");
        each.pass(1);
        String[] grown = {"100000", "010000", "001000", "000100", "000010", "000001"};
        for (int h = 0; h < 6; h++) {
            due("YEAR 0 of HEAD " + h, bumps(each, h), grown[h]);
        }
        each.pass(5);
        due("YEAR 5 of HEAD 0", bumps(each, 0), "111111");
        due("YEAR 5 of HEAD 5", bumps(each, 5), "111111");
        each.pass(1);
        due("YEAR 6 of HEAD 0", bumps(each, 0), "211111");
        due("YEAR 6 of HEAD 5", bumps(each, 5), "111112");

        HatterTunes third = heads(0, 0, 0, 0);
        holds(third, "grow 3");
        String[] first = {"000000", "100000", "100000", "100000", "100100", "100100", "100100", "200100"};
        String[] second = {"000000", "010000", "010000", "010000", "010010", "010010", "010010", "020010"};
        for (int year = 0; year < 8; year++) {
            due("GROW 3 in " + year, bumps(third, 0), first[year]);
            due("GROW 3 in " + year, bumps(third, 1), second[year]);
            third.pass(1);
        }

        HatterTunes rare = heads(0, 0);
        holds(rare, "grow 99");
        until(rare, 99);
        due("99 is still to come", bumps(rare, 0), "100000");
        rare.pass(1);
        due("99 is 3 modulo 6", bumps(rare, 0), "100100");

        HatterTunes nines = heads(0, 0, 4, 0);
        bumps(nines, 0, "999999");
        bumps(nines, 1, "888888");
        holds(nines, "grow 2");
        nines.pass(1);
        due("0 behind 9", bumps(nines, 0), "099999");
        due("9 behind 8", bumps(nines, 1), "898888");
        nines.pass(1);
        due("no multiple", bumps(nines, 0), "099999");
        due("no multiple", bumps(nines, 1), "898888");
    }

    private static void aging() {
        sentence("AGE of each is 1 more (9999 at most). YEAR is 1 more.");
        HatterTunes x = heads(0, 0);
        due("pass", x.pass(1), 1);
        due("AGE", x.of(0, 2), 1);
        x.head(5, 0);
        due("pass", x.pass(2), 3);
        due("AGE", x.of(0, 2), 3);
        due("AGE of the later", x.of(1, 2), 2);
        until(x, 9998);
        due("AGE", x.of(0, 2), 9998);
        due("pass", x.pass(1), 9999);
        due("AGE", x.of(0, 2), 9999);
        due("AGE of the later", x.of(1, 2), 9998);
        due("pass", x.pass(1), STATE);
        due("AGE", x.of(0, 2), 9999);
        due("YEAR", x.told(0), 9999);
    }

    private static void beyondTheLastYear() {
        sentence("goes on from how all is (YEARS, AGE beyond 9999, too), and changes nothing.");
        HatterTunes x = heads(0, 0, 5, 0, 6, 9);
        until(x, 9999);
        // 10000 is 4, 10010 is 2, 10050 is 0 modulo 6; 9999 is 3, 10000 is 0 modulo 4; 9999 is no multiple of 10.
        holds(x, "grow 10;sharp 1 y=8");
        x.row(2, 0, 2);
        x.row(2, 3, 4);
        due("ON 1: no YEAR of GROW has gone", x.on(1, 0, 20), 0);
        due("ON 2: 10000 has gone", x.on(2, 0, 20), 10);
        due("ON 9: 10008", x.on(9, 0, 20), 111121);
        due("ON 12: 10010 has gone", x.on(12, 0, 20), 1010);
        due("ON 60: 10020 and 10050 are 0 modulo 6", x.on(60, 0, 10), 2);
        due("ON 60: 10059", x.on(60, 0, 13), 0);
        due("a BOY far beyond", x.on(60, 1, 0), 9);
        due("ROW in 10000", x.on(1, 2, 20), 222222);
        tune(x, "001010");
        due("WHEN", x.of(0, 5), 12);
        tune(x, "999999");
        due("WHEN of a BOY", x.of(1, 5), 0);
        due("MEAN of 1: HEAD 0, BOY 9, TOLD 2", x.mean(1, 0), 11);
        due("MEAN of 1", x.mean(1, 1), 3);
        x.see(0, 4, 2, 7);
        due("BUMPS: one is grown in 10000", x.of(0, 44), 1 << 6);
        x.see(2, 0, 12, 0);
        due("CAN: ROW in 10011", x.can(2, 0), 0);
        x.see(-1, 0, 0, 0);
        x.see(2, 0, 12, 5);
        due("CAN: grown in 10000, and ROW in 10011, but by v 0", x.can(2, 0), 9);
        due("plan", x.plan(0, 0), 1);
        due("ENDS in 10000: HEAD 0, BOY 54, TOLD 12", x.ends(0), 66);
        due("plan", x.plan(0, 0), 2);
        due("ENDS in 10001: each has grown, the BOY by half of 1", x.ends(0), 1 + 54 + 1);
        due("YEAR", x.told(0), 9999);
        due("AGE", x.of(1, 2), 9999);
        due("BUMPS", bumps(x, 0), "000000");
    }
}
