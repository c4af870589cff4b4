/** The Terms' sentences 2 and 3: what is asked, plans, books, acts, the image, tapes. */
public final class AskedEdgesTest extends Sentences {
    public static void main(String[] args) {
        on();
        heard();
        when();
        shared();
        anthem();
        anthemOfSeveral();
        press();
        seen();
        possibleBumps();
        can();
        odds();
        mean();
        planRows();
        ends();
        bookRows();
        looked();
        actsWrap();
        bodies();
        bodiesFromTheLeft();
        trace();
        imageHolds();
        imageLeavesTheRest();
        tapes();
        judged();
        end();
    }

    private static void on() {
        sentence("ON n YEARS (0 .. 60): a NOTE; a BUMP; SOUND of a HEAD as a number of six digits (its first NOTE the "
            + "first; 0 ahead, too).");
        HatterTunes x = heads(0, 0, 6, 9);
        bumps(x, 0, "001239");
        for (int part = 0; part < 4; part++) {
            x.row(1, part, part + 1);
        }
        due("n -1", x.on(-1, 0, 0), BAD);
        due("n 61", x.on(61, 0, 0), BAD);
        due("0 ahead", x.on(0, 0, 20), 1239);
        due("as it is now", x.on(0, 0, 5), 9);
        due("as it is now", x.on(0, 0, 15), 9);
        holds(x, "grow 1;sharp 7 y=5");
        due("0 YEARS", x.on(0, 0, 20), 1239);
        due("BUMP 5 in 5", x.on(5, 0, 15), 9);
        due("BUMP 5 in 6", x.on(6, 0, 15), 0);
        due("SOUND in 5", x.on(5, 0, 20), 889016);
        for (int i = 0; i < 6; i++) {
            due("NOTE " + i + " in 5", x.on(5, 0, i), "889016".charAt(i) - '0');
            due("BUMP " + i + " in 5", x.on(5, 0, 10 + i), "112349".charAt(i) - '0');
        }
        due("grown by its own number, and ROW", x.on(3, 1, 20), 455544);
        due("in 59", x.on(59, 0, 15), 8);
        due("in 60", x.on(60, 0, 15), 9);
        due("ROW in 60, and ten times grown", x.on(60, 1, 0), 1);
        due("ROW in 59, and nine times grown", x.on(59, 1, 0), 3);
    }

    private static void heard() {
        sentence("HEARD in a HEAD: the least place (0 .. 5) of its SOUND from which on THE TUNE lies there, note by note "
            + "(-5: at none; 0, if THE TUNE has no notes).");
        HatterTunes x = heads(0, 0);
        bumps(x, 0, "011233");
        String[][] places = {
            {"", "0"}, {"0", "0"}, {"1", "1"}, {"2", "3"}, {"3", "4"}, {"33", "4"}, {"011233", "0"}, {"11233", "1"},
            {"01123", "0"}, {"11", "1"}, {"12", "2"}, {"233", "3"}, {"9", "-5"}, {"333", "-5"}, {"30", "-5"},
            {"332", "-5"}, {"00", "-5"}, {"011234", "-5"}, {"111233", "-5"}, {"0112330", "-5"}, {"0011233", "-5"},
            {"01123300", "-5"}, {"00011233", "-5"},
        };
        for (String[] row : places) {
            tune(x, row[0]);
            due("HEARD of " + row[0], x.of(0, 4), Integer.parseInt(row[1]));
        }
        bumps(x, 0, "000005");
        tune(x, "5");
        due("the last place", x.of(0, 4), 5);
        tune(x, "05");
        due("0 ahead", x.of(0, 4), 4);
        tune(x, "0");
        due("of several the least", x.of(0, 4), 0);
        tune(x, "000005");
        due("all", x.of(0, 4), 0);
        tune(x, "0000005");
        due("7 notes", x.of(0, 4), NEVER);
        tune(x, "00000005");
        due("8 notes", x.of(0, 4), NEVER);
    }

    private static void when() {
        sentence("WHEN in a HEAD: the fewest YEARS (0 .. 60) behind which THE TUNE is HEARD in it (-5: not by then).");
        HatterTunes x = heads(0, 0);
        due("no notes", x.of(0, 5), 0);
        tune(x, "000000");
        due("now", x.of(0, 5), 0);
        holds(x, "grow 1");
        tune(x, "1");
        due("in 1", x.of(0, 5), 1);
        tune(x, "999999");
        due("in 54", x.of(0, 5), 54);
        tune(x, "099999");
        due("in 55", x.of(0, 5), 55);
        tune(x, "000000");
        due("now, and in 60", x.of(0, 5), 0);
        x.pass(1);
        due("in 59 again", x.of(0, 5), 59);
        tune(x, "100000");
        due("now, and in 60", x.of(0, 5), 0);
        x.press(0, 5, 1);
        tune(x, "100002");
        due("not by then", x.of(0, 5), NEVER);

        HatterTunes y = heads(0, 0);
        holds(y, "grow 59");
        tune(y, "100001");
        due("in 60", y.of(0, 5), 60);
        HatterTunes z = heads(0, 0);
        holds(z, "grow 60");
        tune(z, "200000");
        due("in 61", z.of(0, 5), NEVER);
        z.pass(1);
        due("in 60", z.of(0, 5), 60);
        tune(z, "1000000");
        due("7 notes", z.of(0, 5), NEVER);
    }

    private static void shared() {
        sentence("SHARED of two: the greatest number (0 .. 6) of NOTES with which the SOUND of the one ends and that of "
            + "the other begins.");
        String[][] pairs = {
            {"123456", "000000", "0"}, {"123456", "600000", "1"}, {"123456", "560000", "2"}, {"123456", "456000", "3"},
            {"123456", "345600", "4"}, {"123456", "234560", "5"}, {"123456", "123456", "6"}, {"123456", "512345", "0"},
            {"111111", "111112", "5"}, {"111111", "111111", "6"}, {"121212", "121200", "4"}, {"212121", "121212", "5"},
            {"121212", "121212", "6"}, {"000000", "000001", "5"}, {"100000", "000001", "5"}, {"123400", "001234", "2"},
            {"000000", "000000", "6"}, {"000001", "100000", "1"}, {"999990", "099999", "1"}, {"099999", "999990", "5"},
            {"999999", "999998", "5"}, {"199999", "999991", "5"}, {"123451", "151234", "1"}, {"300003", "300003", "6"},
        };
        HatterTunes x = heads(0, 0, 0, 0);
        for (String[] row : pairs) {
            bumps(x, 0, row[0]);
            bumps(x, 1, row[1]);
            due("SHARED of " + row[0] + " and " + row[1], x.shared(0, 1), Integer.parseInt(row[2]));
        }
        due("of one with itself", x.shared(0, 0), 6);
        bumps(x, 0, "123456");
        due("of one with itself", x.shared(0, 0), 6);
    }

    private static HatterTunes sounding(String... sounds) {
        HatterTunes x = new HatterTunes();
        for (int h = 0; h < sounds.length; h++) {
            x.head(0, 0);
            bumps(x, h, sounds[h]);
        }
        return x;
    }

    private static void anthem(HatterTunes x, int heads, int much, String row) {
        due("how much of " + heads, x.anthem(heads, -1), much);
        for (int k = 0; k < 6; k++) {
            due(k + " of " + heads, x.anthem(heads, k), k < row.length() ? row.charAt(k) - '0' : NEVER);
        }
    }

    private static void anthem() {
        sentence("ANTHEM of a set of HEADS (bits): of all rows of them that by which 6 times how many they are, less what "
            + "each and the next of the row SHARE, together, is least");
        HatterTunes x = sounding("123456", "456123", "345678");
        anthem(x, 7, 11, "102");
        anthem(x, 3, 9, "01");
        anthem(x, 5, 8, "02");
        anthem(x, 6, 11, "12");
        anthem(x, 1, 6, "0");
        anthem(x, 2, 6, "1");
        anthem(x, 4, 6, "2");
        HatterTunes six = sounding("555550", "455555", "345555", "234555", "123455", "012345");
        anthem(six, 63, 11, "543210");
        anthem(six, 33, 11, "05");
        anthem(six, 48, 7, "54");
        due("bit 6", six.anthem(64, -1), BAD);
        due("all bits", six.anthem(-1, -1), BAD);
        due("the highest bit", six.anthem(MIN, -1), BAD);
        due("the highest bit and one", six.anthem(MIN + 1, 0), BAD);
        due("one that is not there", x.anthem(8, -1), BAD);
        due("one that is not there", x.anthem(15, 0), BAD);
    }

    private static void anthemOfSeveral() {
        sentence("(of several the first as a row of numbers): how much; the k-th (-5: there are fewer; of no HEADS 0).");
        anthem(sounding("000000", "111111", "222222", "333333", "444444", "555555"), 63, 36, "012345");
        anthem(sounding("777777", "777777", "777777", "777777", "777777", "777777"), 63, 6, "012345");
        anthem(sounding("777777", "777777", "777777", "777777", "777777", "777777"), 42, 6, "135");
        anthem(sounding("000000", "111111", "222222", "333333", "444444", "555555"), 52, 18, "245");
        anthem(sounding("100002", "200001", "200001"), 7, 11, "012");
        anthem(sounding("300002", "100003", "300002", "200004"), 15, 16, "1023");
        anthem(new HatterTunes(), 0, 0, "");
        anthem(heads(0, 0), 0, 0, "");
        anthem(heads(0, 0, 0, 0, 0, 0, 0, 0, 0, 0, 0, 0), 0, 0, "");
        HatterTunes x = heads(0, 0);
        due("k -2", x.anthem(0, -2), NONE);
        due("k 6", x.anthem(0, 6), NONE);
        due("k far", x.anthem(1, MAX), NONE);
        due("k far", x.anthem(1, MIN), NONE);
    }

    private static void pressed(HatterTunes x, int head, String notes, int want) {
        tune(x, notes);
        due("PRESS of " + head + " for " + notes, x.of(head, 6), want);
    }

    private static void press() {
        sentence("PRESS of a HEAD: of all BUMPS and numbers 0 .. 9 that by which, were the BUMP that now, THE TUNE is HEARD "
            + "in it (10 times the BUMP and the number; of several the least; -5: by none).");
        HatterTunes x = heads(0, 0, 2, 0, 3, 5, 5, 0);
        pressed(x, 0, "", 0);
        pressed(x, 0, "000000", 0);
        pressed(x, 0, "9", 9);
        pressed(x, 0, "900000", 9);
        pressed(x, 0, "09", 19);
        pressed(x, 0, "000009", 59);
        pressed(x, 0, "000001", 51);
        pressed(x, 0, "99", NEVER);
        pressed(x, 0, "0000000", NEVER);
        pressed(x, 0, "00000000", NEVER);
        x.press(0, 0, 5);
        pressed(x, 0, "5", 5);
        pressed(x, 0, "500000", 5);
        pressed(x, 0, "510000", 11);
        pressed(x, 0, "00000", 0);
        pressed(x, 1, "000004", 58);
        pressed(x, 1, "5", NEVER);
        pressed(x, 2, "000009", NEVER);
        pressed(x, 2, "000090", 49);
        x.pass(2);
        pressed(x, 3, "2", 0);
        pressed(x, 3, "222226", 58);
        pressed(x, 3, "7", NEVER);
        due("nothing was pressed", bumps(x, 0), "500000");
    }

    private static void seen() {
        sentence("SEEN told by hand: a HEAD, a BUMP, YEARS n (0 .. 12) from now, the NOTE then (5 rows at most).");
        HatterTunes x = heads(0, 0, 0, 0);
        due("n -1", x.see(0, 0, -1, 0), BAD);
        due("n 13", x.see(0, 0, 13, 0), BAD);
        due("note -1", x.see(0, 0, 0, -1), BAD);
        due("note 10", x.see(0, 0, 0, 10), BAD);
        due("BUMP -1", x.see(0, -1, 0, 0), NONE);
        due("BUMP 6", x.see(0, 6, 0, 0), NONE);
        due("HEAD 2", x.see(2, 0, 0, 0), NONE);
        due("n 0", x.see(0, 0, 0, 0), 1);
        due("n 12", x.see(0, 5, 12, 9), 2);
        due("another", x.see(1, 5, 12, 9), 3);
        due("the same again", x.see(1, 5, 12, 9), 4);
        due("a fifth", x.see(1, 5, 12, 9), 5);
        due("a sixth", x.see(1, 5, 12, 9), FULL);
        due("five", x.count(2), 5);
        due("none then", x.see(-1, 0, 0, 0), 0);
        due("none", x.count(2), 0);
        due("one again", x.see(0, 0, 0, 0), 1);
    }

    private static void possible(HatterTunes x, int bump, int years, int note, int want) {
        x.see(-1, 0, 0, 0);
        x.see(0, bump, years, note);
        due("BUMPS of " + bump + ", NOTE " + note + " in " + years, x.of(0, 40 + bump), want);
    }

    private static void possibleBumps() {
        sentence("BUMPS of one: those numbers 0 .. 9, as bits, by which, were that a told BUMP of it now, all of SEEN that "
            + "is of that HEAD is so.");
        HatterTunes x = heads(0, 0, 0, 0);
        due("nothing SEEN", x.of(0, 40), 1023);
        holds(x, "grow 11");
        possible(x, 5, 0, 0, 1);
        possible(x, 5, 0, 9, 512);
        possible(x, 5, 11, 1, 2);
        possible(x, 5, 12, 1, 1);
        possible(x, 5, 12, 0, 512);
        possible(x, 0, 0, 0, 1);
        possible(x, 0, 1, 0, 512);
        possible(x, 0, 12, 0, 512);
        possible(x, 3, 12, 4, 16);
        x.see(1, 3, 0, 9);
        due("another HEAD's", x.of(0, 43), 16);
        due("the other HEAD's own", x.of(1, 43), 512);
        x.see(0, 3, 0, 4);
        due("two that agree", x.of(0, 43), 16);
        x.see(0, 2, 0, 0);
        due("another BUMP's, that is so", x.of(0, 43), 16);
        x.see(0, 2, 0, 1);
        due("another BUMP's, that is not so", x.of(0, 43), 0);
        HatterTunes y = heads(2, 0);
        possible(y, 0, 12, 4, 1 << 8 | 1 << 9);
        y.see(0, 0, 3, 0);
        due("two that can't be", y.of(0, 40), 0);
        HatterTunes deaf = heads(3, 0);
        possible(deaf, 0, 5, 0, 1023);
        possible(deaf, 0, 5, 1, 0);
        HatterTunes moved = heads(0, 0);
        holds(moved, "grow 3");
        moved.see(0, 3, 4, 6);
        due("YEAR 3 grows on the way", moved.of(0, 43), 1 << 5);
        moved.pass(3);
        due("from now: still ahead", moved.of(0, 43), 1 << 5);
        moved.pass(1);
        due("from now: behind", moved.of(0, 43), 1 << 6);
    }

    private static void can() {
        sentence("CAN of a HEAD: how many numbers v (0 .. 9) there are by which, were that its v, likewise; the least "
            + "(-5: none).");
        for (int note = 0; note < 10; note++) {
            HatterTunes x = heads(1, 3);
            x.see(0, 0, 12, note);
            due("one v for " + note, x.can(0, 0), 1);
            due("the least for " + note, x.can(0, 1), note);
            x.see(0, 0, 0, (note + 1) % 10);
            due("none for two", x.can(0, 0), 0);
            due("none for two", x.can(0, 1), NEVER);
        }
        HatterTunes x = heads(0, 9, 1, 9);
        due("nothing SEEN", x.can(0, 0), 10);
        due("nothing SEEN", x.can(0, 1), 0);
        x.see(1, 0, 0, 0);
        due("another HEAD's", x.can(0, 0), 10);
        holds(x, "sharp 5 v>7;sharp 3 v<2");
        x.see(0, 0, 0, 5);
        due("v 8 and 9", x.can(0, 0), 2);
        due("v 8 and 9", x.can(0, 1), 8);
        x.see(-1, 0, 0, 0);
        x.see(0, 0, 0, 3);
        due("v 0 and 1", x.can(0, 0), 2);
        due("v 0 and 1", x.can(0, 1), 0);
        x.see(-1, 0, 0, 0);
        x.see(0, 0, 0, 0);
        due("v 2 .. 7", x.can(0, 0), 6);
        due("v 2 .. 7", x.can(0, 1), 2);
        due("v stays", x.of(0, 1), 9);
    }

    private static void odds(HatterTunes x, int head, String notes, long above, long below) {
        tune(x, notes);
        due("ODDS of " + notes + ", above", x.odds(head, 0), above);
        due("ODDS of " + notes + ", below", x.odds(head, 1), below);
    }

    private static void odds() {
        sentence("ODDS of a HEAD: if one BUMP of it and one number 0 .. 9, each of 60 alike likely, are such that the BUMP "
            + "is that now: how likely THE TUNE is HEARD in it: a fraction in lowest terms.");
        HatterTunes x = heads(0, 0, 3, 5);
        odds(x, 0, "", 1, 1);
        odds(x, 0, "0", 1, 1);
        odds(x, 0, "0000000", 0, 1);
        odds(x, 0, "00000000", 0, 1);
        odds(x, 0, "000000", 1, 10);
        odds(x, 0, "00000", 2, 5);
        odds(x, 0, "0000", 7, 10);
        odds(x, 0, "000", 1, 1);
        odds(x, 0, "9", 1, 10);
        odds(x, 0, "90", 1, 12);
        odds(x, 0, "99", 0, 1);
        odds(x, 0, "000009", 1, 60);
        odds(x, 1, "000000", 1, 4);
        odds(x, 1, "000009", 0, 1);
        bumps(x, 0, "123456");
        odds(x, 0, "123456", 1, 10);
        odds(x, 0, "123450", 1, 60);
        odds(x, 0, "3", 17, 20);
        due("nothing was pressed", bumps(x, 0), "123456");
    }

    private static void mean(HatterTunes x, int n, long above, long below) {
        due("MEAN of " + n + ", above", x.mean(n, 0), above);
        due("MEAN of " + n + ", below", x.mean(n, 1), below);
    }

    private static void mean() {
        sentence("MEAN of n YEARS (0 .. 60): all NOTES of all HEADS behind n, together, by how many NOTES they are: a fraction "
            + "in lowest terms (NO: there are none).");
        HatterTunes x = new HatterTunes();
        mean(x, 0, NO, NO);
        mean(x, 60, NO, NO);
        x.head(5, 0);
        mean(x, -1, NO, NO);
        mean(x, 61, NO, NO);
        mean(x, 0, 0, 1);
        mean(x, 1, 1, 1);
        mean(x, 9, 9, 1);
        mean(x, 60, 9, 1);
        x.head(0, 0);
        mean(x, 1, 1, 2);
        mean(x, 60, 9, 2);
        bumps(x, 1, "000001");
        mean(x, 0, 1, 12);
        bumps(x, 1, "999999");
        mean(x, 60, 9, 1);
        bumps(x, 1, "110000");
        mean(x, 0, 1, 6);
        x.head(0, 0);
        mean(x, 0, 1, 9);
        HatterTunes nines = heads(0, 0, 0, 0, 0, 0, 0, 0, 0, 0, 0, 0);
        for (int h = 0; h < 6; h++) {
            bumps(nines, h, "999999");
        }
        mean(nines, 0, 9, 1);
        nines.press(5, 5, 8);
        mean(nines, 60, 323, 36);
        holds(nines, "grow 60;flat 99 p=9");
        mean(nines, 0, 323, 36);
        mean(nines, 1, 31, 4);
    }

    // ---- plans, books

    private static void planRows() {
        sentence("A PLAN told by hand: what goes (0 a YEAR, 1 all BUMPS of a HEAD are 0, 2 AGE of a HEAD is 0, 3 all BUMPS of a "
            + "HEAD are 1 more each (0 behind 9); 10 rows at most)");
        HatterTunes x = heads(0, 0, 5, 0);
        due("what -2", x.plan(-2, 0), NONE);
        due("what 4", x.plan(4, 0), NONE);
        for (int k = 0; k < 10; k++) {
            due("row", x.plan(k % 4, 1), k + 1);
        }
        due("an eleventh", x.plan(0, 0), FULL);
        due("ten", x.count(3), 10);
        due("empty", x.plan(-1, 0), 0);
        due("one again", x.plan(3, 0), 1);

        HatterTunes y = heads(0, 0, 5, 0);
        bumps(y, 0, "089999");
        bumps(y, 1, "111111");
        y.pass(7);
        due("no rows", y.ends(0), 44 + 42);
        y.plan(3, 0);
        due("0 behind 9", y.ends(0), 1 + 9 + 42);
        y.plan(3, 1);
        due("of the HEAD told alone", y.ends(0), 10 + 48);
        y.plan(2, 1);
        due("AGE is 0", y.ends(0), 10 + 6);
        y.plan(0, 0);
        y.plan(0, 0);
        due("two YEARS", y.ends(0), 10 + 18);
        y.plan(1, 1);
        due("all BUMPS are 0", y.ends(0), 10 + 12);
        y.plan(1, 0);
        due("all BUMPS are 0", y.ends(0), 12);
        y.plan(3, 0);
        due("row by row", y.ends(0), 6 + 12);
        y.plan(2, 0);
        due("another AGE", y.ends(0), 6 + 12);
        due("how it is", bumps(y, 0), "089999");
        due("how it is", y.of(1, 2), 7);
    }

    private static void ends() {
        sentence("ENDS: all NOTES of all HEADS, together; in which HEADS THE TUNE is HEARD (bits).");
        HatterTunes x = new HatterTunes();
        due("no HEADS", x.ends(0), 0);
        due("no HEADS", x.ends(1), 0);
        x.plan(0, 0);
        due("no HEADS", x.ends(0), 0);
        due("no HEADS", x.ends(1), 0);
        for (int h = 0; h < 6; h++) {
            x.head(0, 0);
        }
        due("all 0", x.ends(0), 0);
        due("no notes", x.ends(1), 63);
        for (int h = 0; h < 6; h++) {
            bumps(x, h, "999999");
        }
        due("all 9", x.ends(0), 324);
        tune(x, "0");
        due("in none", x.ends(1), 0);
        x.plan(3, 5);
        due("in the last", x.ends(1), 32);
        x.plan(1, 0);
        due("in the first, too", x.ends(1), 33);
        due("NOTES", x.ends(0), 4 * 54);
        holds(x, "grow 1");
        x.plan(-1, 0);
        for (int k = 0; k < 10; k++) {
            x.plan(0, 0);
        }
        due("ten YEARS: all once to 0, four of each again to 1", x.ends(0), 6 * 4);
        due("0 in each", x.ends(1), 63);
        tune(x, "1111");
        due("1 four times", x.ends(1), 1 | 1 << 1 | 1 << 2);
    }

    private static void bookRows() {
        sentence("A BOOK told by hand: HEADS, AGES (0 .. 9999; 8 at most)");
        HatterTunes x = heads(0, 0);
        due("AGE -1", x.book(0, -1), BAD);
        due("AGE 10000", x.book(0, 10000), BAD);
        due("AGE 0", x.book(0, 0), 1);
        due("AGE 9999", x.book(0, 9999), 2);
        for (int k = 3; k <= 8; k++) {
            due("row", x.book(0, 0), k);
        }
        due("a ninth", x.book(0, 0), FULL);
        due("eight", x.count(4), 8);
        due("empty", x.book(-1, 0), 0);
        due("one again", x.book(0, 0), 1);
    }

    private static void looked() {
        sentence("LOOKED at: the number (from 0) of the first of these rows by which it is otherwise now (-5: none).");
        for (int wrong = 0; wrong < 8; wrong++) {
            HatterTunes x = heads(0, 0);
            x.pass(3);
            x.head(0, 0);
            due("no rows", x.looked(), NEVER);
            for (int k = 0; k < 8; k++) {
                x.book(k % 2, k % 2 == 0 ? 3 : 0);
            }
            due("all are so", x.looked(), NEVER);
            x.book(-1, 0);
            for (int k = 0; k < 8; k++) {
                x.book(k % 2, k == wrong || k == 7 ? 4 : k % 2 == 0 ? 3 : 0);
            }
            due("the first that is otherwise", x.looked(), wrong);
        }
        HatterTunes old = heads(0, 0);
        old.book(0, 9999);
        old.book(0, 9998);
        due("not yet", old.looked(), 0);
        until(old, 9998);
        due("not yet", old.looked(), 0);
        old.pass(1);
        due("now, but not the next", old.looked(), 1);
    }

    // ---- acts

    private static void act(HatterTunes x, int head, int act, int with, int want, int... bodies) {
        String call = "act(" + head + ", " + act + ", " + with + ")";
        due(call, x.act(head, act, with), want);
        due(call + ": how many bodies", x.count(6), bodies.length);
        for (int k = 0; k < bodies.length; k++) {
            due(call + ": body " + k, x.trace(k), bodies[k]);
        }
        due(call + ": none behind", x.trace(bodies.length), NONE);
    }

    private static void actsWrap() {
        sentence("ACTS of a HEAD with x (wrapping): 0 hums, 1 plays, 2 tells; i its number.");
        HatterTunes x = heads(0, 9, 0, 9, 2, 0, 4, 0, 5, 0, 3, 1);
        act(x, 0, 0, MAX, MAX, 10);
        act(x, 1, 0, MAX, MIN, 10);
        act(x, 1, 0, MAX - 1, MAX, 10);
        act(x, 0, 1, MIN, MAX - 8, 11, 10);
        act(x, 0, 1, MIN + 9, MIN, 11, 10);
        act(x, 0, 2, 9 + (1 << 30), MIN, 12, 11, 10);
        act(x, 0, 2, 9 + MIN, 0, 12, 11, 10);
        act(x, 0, 2, MAX, -20, 12, 11, 10);
        act(x, 2, 0, MAX, MAX, 30, 10);
        act(x, 2, 0, MIN, MIN + 2, 30, 10);
        act(x, 2, 0, 1 << 30, -(1 << 30) + 2, 30, 10);
        act(x, 3, 0, MIN - 3, MIN, 50, 10);
        act(x, 3, 1, MAX, -(MIN + 3) ^ 6, 51, 20, 11, 50, 10);
        act(x, 4, 2, MIN, ((MIN - 4) * 3 + 4) * 2, 60, 12, 11, 30, 10);
        act(x, 5, 2, (1 << 30) - 4, MIN + (1 + 5 - 1), 40, 12, 11, 10, 11, 10);
        int[] noAct = {-1, 3, MIN, MAX};
        for (int act : noAct) {
            act(x, 0, 0, 7, 7, 10);
            act(x, 0, act, 7, 0);
            due("no act", x.trace(0), NONE);
        }
    }

    private static void bodies() {
        sentence("BODIES: HEAD: 10 hums: x + i. 11 plays: hums(x) - v. 12 tells: plays(x) * 2. GREAT: 20 plays: super.plays(x) ^ 6. "
            + "SMALL: 30 hums: super.hums(x * 3). DEAF: 40 tells: super.tells(x) + plays(1). LORD: 50 hums: -super.hums(x). "
            + "51 plays: super.plays(x + 1). BOY: 60 tells: super.tells(x - i). TOLD: 70 plays: super.plays(x) + super.hums(2). "
            + "71 hums: super.hums(x) ^ v.");
        HatterTunes x = heads(0, 4, 1, 4, 2, 4, 3, 4, 4, 4, 5, 4);
        for (int n : new int[] {-7, -1, 0, 1, 2, 40}) {
            act(x, 0, 0, n, n, 10);
            act(x, 0, 1, n, n - 4, 11, 10);
            act(x, 0, 2, n, (n - 4) * 2, 12, 11, 10);
            act(x, 1, 0, n, n + 1, 10);
            act(x, 1, 1, n, (n + 1 - 4) ^ 6, 20, 11, 10);
            act(x, 1, 2, n, ((n + 1 - 4) ^ 6) * 2, 12, 20, 11, 10);
            act(x, 2, 0, n, 3 * n + 2, 30, 10);
            act(x, 2, 1, n, 3 * n + 2 - 4, 11, 30, 10);
            act(x, 2, 2, n, (3 * n + 2 - 4) * 2, 12, 11, 30, 10);
            act(x, 3, 0, n, n + 3, 10);
            act(x, 3, 1, n, n + 3 - 4, 11, 10);
            act(x, 3, 2, n, (n + 3 - 4) * 2 + (1 + 3 - 4), 40, 12, 11, 10, 11, 10);
        }
        HatterTunes y = heads(0, 4, 0, 4, 4, 4, 0, 4, 6, 9, 5, 7);
        for (int n : new int[] {-7, -1, 0, 1, 2, 40}) {
            act(y, 2, 0, n, -(n + 2), 50, 10);
            act(y, 2, 1, n, (-(n + 1 + 2) - 4) ^ 6, 51, 20, 11, 50, 10);
            act(y, 2, 2, n, ((-(n + 1 + 2) - 4) ^ 6) * 2, 12, 51, 20, 11, 50, 10);
            act(y, 5, 0, n, 3 * n + 5, 30, 10);
            act(y, 5, 1, n, 3 * n + 5 - 7, 11, 30, 10);
            act(y, 5, 2, n, (3 * (n - 5) + 5 - 7) * 2, 60, 12, 11, 30, 10);
            act(y, 4, 0, n, (n + 4) ^ 9, 71, 10);
            act(y, 4, 1, n, ((n + 4) ^ 9) - 9 + 6, 70, 11, 71, 10, 10);
        }
    }

    private static void bodiesFromTheLeft() {
        sentence("hums(..) and so on: the body of its KIND, or, if that has none, of the next KIND above that has one; super.hums(..): "
            + "so from the KIND above the body's on; all that stands in a body is done from the left on.");
        HatterTunes x = heads(6, 9);
        int one = (1 ^ 9) - 9 + 2;
        act(x, 0, 2, 5, ((5 ^ 9) - 9 + 2) * 2 + one, 40, 12, 70, 11, 71, 10, 10, 70, 11, 71, 10, 10);
        act(x, 0, 2, MAX, ((MAX ^ 9) - 9 + 2) * 2 + one, 40, 12, 70, 11, 71, 10, 10, 70, 11, 71, 10, 10);
    }

    private static void trace() {
        sentence("THE TRACE: the numbers of the bodies that ran in the latest act(), as they began; the first 20 are kept.");
        HatterTunes x = heads(6, 9, 0, 0);
        due("none yet", x.trace(0), NONE);
        act(x, 0, 2, 5, 11, 40, 12, 70, 11, 71, 10, 10, 70, 11, 71, 10, 10);
        for (int i : new int[] {-1, 12, 13, 19, 20, 21, MIN, MAX}) {
            due("trace(" + i + ")", x.trace(i), NONE);
        }
        act(x, 1, 0, 5, 6, 10);
        due("the latest alone", x.trace(1), NONE);
    }

    // ---- the image

    private static void imageHolds() {
        sentence("THE IMAGE: HEADS with all that is theirs, THE TUNE, YEAR, SEEN, the PLAN, the BOOK, which SHOP holds.");
        HatterTunes x = new HatterTunes();
        due("none yet", x.undo(), STATE);
        for (int h = 0; h < 6; h++) {
            x.head(h == 0 ? 0 : 6, 9 - h);
            bumps(x, h, "12345" + h);
        }
        for (int h = 1; h < 6; h++) {
            for (int part = 0; part < 4; part++) {
                x.row(h, part, (h + part) % 10);
            }
        }
        x.pass(3);
        tune(x, "31");
        x.see(0, 5, 0, 0);
        x.plan(3, 0);
        x.book(0, 3);
        holds(x, "grow 7;sharp 1 p=0");
        due("image", x.image(), 6);
        holds(x, "grow 8;sharp 2 p=0");
        for (int h = 0; h < 6; h++) {
            bumps(x, h, "999999");
            for (int part = 0; part < 4; part++) {
                x.row(h, part, 9);
            }
        }
        x.pass(60);
        tune(x, "999");
        x.see(0, 0, 0, 0);
        x.plan(1, 0);
        x.book(0, 0);
        due("undo", x.undo(), 6);
        for (int h = 0; h < 6; h++) {
            due("KIND", x.of(h, 0), h == 0 ? 0 : 6);
            due("v", x.of(h, 1), 9 - h);
            due("AGE", x.of(h, 2), 3);
            due("BUMPS", bumps(x, h), "12345" + h);
        }
        for (int h = 1; h < 6; h++) {
            for (int part = 0; part < 4; part++) {
                due("ROW", x.row(h, part, 0), (h + part) % 10);
            }
        }
        due("YEAR", x.told(0), 3);
        due("notes", x.count(7), 2);
        due("a note", x.told(10), 3);
        due("a note", x.told(11), 1);
        due("SEEN", x.count(2), 1);
        due("SEEN of BUMP 5: NOTE 0, sharp by 1", x.of(0, 45), 512);
        due("PLAN", x.count(3), 1);
        due("PLAN: 345672 by its one row, the others", x.ends(0), 27 + noteSum(x));
        due("BOOK", x.count(4), 1);
        due("BOOK", x.looked(), NEVER);
        due("GROW", x.told(1), 7);
        due("SOUND by the SHOP", x.of(0, 3), 234561);
    }

    /** Of HEADS 1 .. 5: all NOTES, as they are now. */
    private static int noteSum(HatterTunes x) {
        int sum = 0;
        for (int h = 1; h < 6; h++) {
            for (int b = 0; b < 6; b++) {
                sum += x.of(h, 20 + b);
            }
        }
        return sum;
    }

    private static void imageLeavesTheRest() {
        sentence("All is as THE IMAGE: how many HEADS.");
        HatterTunes x = new HatterTunes();
        due("an image of none", x.image(), 0);
        x.pass(5);
        x.head(6, 3);
        x.pass(5);
        bumps(x, 0, "123456");
        for (int part = 0; part < 4; part++) {
            x.row(0, part, 9);
        }
        holds(x, "grow 9");
        due("undo", x.undo(), 0);
        due("no HEADS", x.of(0, 0), NO_VALUE);
        due("YEAR", x.told(0), 0);
        due("no SHOP holds", x.told(1), 0);
        due("a HEAD again", x.head(6, 4), 0);
        due("v", x.of(0, 1), 4);
        due("AGE 0 at first", x.of(0, 2), 0);
        due("BUMPS 0 at first", bumps(x, 0), "000000");
        for (int part = 0; part < 4; part++) {
            due("ROW 0 at first", x.row(0, part, 5), 0);
        }
        due("THE IMAGE is still there", x.undo(), 0);
        x.head(0, 0);
        due("a newer image", x.image(), 1);
        x.head(0, 0);
        x.press(0, 0, 9);
        due("undo", x.undo(), 1);
        due("the newer one", bumps(x, 0), "000000");
        due("undo twice", x.undo(), 1);
    }

    // ---- tapes

    private static void tapes() {
        sentence("TAPES 0 .. 5 hold nothing (at first), or a row of 0 bytes, 1 shorts, 2 ints, 3 longs, 4 booleans (items 0, 1).");
        HatterTunes x = new HatterTunes();
        long[] numbers = {0, 1, -1, 2, 127, 128, -128, -129, 255, 256, 32767, 32768, -32768, -32769, 65535, 65536, MAX,
            MAX + 1L, MIN, MIN - 1L, 1L << 32, (1L << 32) - 1, Long.MAX_VALUE, NO + 1, NO};
        due("TAPE -1", x.item(-1, 0, 0), NONE);
        due("TAPE 6", x.item(6, 0, 0), NONE);
        for (int t = 0; t < 6; t++) {
            due("nothing at first", x.item(t, 0, 0), NOTHING);
            due("nothing at first", x.read(t, 0), NO);
        }
        for (int sort = 0; sort < 5; sort++) {
            due("a row", x.tape(sort, sort, 1), 1);
            for (long v : numbers) {
                long[] kept = {(byte) v, (short) v, (int) v, v, v == 0 ? 0 : 1};
                due("item of sort " + sort, x.item(sort, 0, v), 1);
                due(v + " as sort " + sort, x.read(sort, 0), kept[sort]);
            }
        }
    }

    private static void judged() {
        sentence("THE TUNE told by a row of bytes, from a place on, note by note, is JUDGED: the first that is otherwise (counted from 0 "
            + "from that place on); -5: none, or it has no notes (wherever the place is, also if the TAPE holds nothing); 100 and how "
            + "many were looked at, if the row ends ahead of that (or the place is below 0, or the TAPE holds nothing).");
        int[] places = {MIN, -1, 0, 1, 59, 60, 61, MAX};
        HatterTunes x = new HatterTunes();
        x.tape(1, 0, 60);
        x.tape(2, 0, 0);
        for (int place : places) {
            due("no notes, nothing, from " + place, x.judge(0, place), NEVER);
            due("no notes, 60 items, from " + place, x.judge(1, place), NEVER);
            due("no notes, no items, from " + place, x.judge(2, place), NEVER);
        }
        tune(x, "00000000");
        for (int place : places) {
            due("nothing, from " + place, x.judge(0, place), 100);
            due("no items, from " + place, x.judge(2, place), 100);
        }
        int[] wanted = {100, 100, NEVER, NEVER, 101, 100, 100, 100};
        for (int k = 0; k < places.length; k++) {
            due("60 items from " + places[k], x.judge(1, places[k]), wanted[k]);
        }
        for (int left = 1; left <= 8; left++) {
            due("the last " + left, x.judge(1, 60 - left), left == 8 ? NEVER : 100 + left);
        }
        for (int otherwise = 0; otherwise < 8; otherwise++) {
            x.item(1, 10 + otherwise, 1);
            x.item(1, 17, 1);
            due("the first that is otherwise", x.judge(1, 10), otherwise);
            x.item(1, 10 + otherwise, 0);
            x.item(1, 17, 0);
        }
        x.item(1, 59, 7);
        due("otherwise ahead of the end", x.judge(1, 57), 2);
        due("the row ends ahead of that", x.judge(1, 60), 100);
        x.item(1, 59, 256);
        due("its lowest bits", x.judge(1, 59), 101);
        x.item(1, 0, -10);
        due("below 0", x.judge(1, 0), 0);
        x.item(1, 0, 10);
        due("no note", x.judge(1, 0), 0);
    }
}
