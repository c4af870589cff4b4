import java.io.IOException;
import java.nio.file.Files;
import java.nio.file.Path;

/**
 * What the tests of the document's sentences share. A test begins with the sentence that it is of, in the
 * document's own words: words that the document does not have are a fault of the test.
 */
abstract class Sentences {
    static final int NONE = -1, BAD = -2, STATE = -3, FULL = -4, NEVER = -5, NO_VALUE = -10001;
    static final int NOTHING = -11, CAST = -12, PLACE = -13, SIZE = -14;
    static final int MIN = Integer.MIN_VALUE, MAX = Integer.MAX_VALUE;
    static final long NO = Long.MIN_VALUE;

    private static final String DOCUMENT = readDocument();
    private static String sentence = "";
    private static int sentences = 0;
    private static int answers = 0;
    private static int wrong = 0;

    private static String readDocument() {
        try {
            return oneLine(Files.readString(Path.of("../shared/DOC.md")));
        } catch (IOException nowhere) {
            System.out.println("no ../shared/DOC.md: the sentences are not looked up");
            return "";
        }
    }

    private static String oneLine(String text) {
        return text.replaceAll("\\s+", " ");
    }

    static void sentence(String words) {
        sentence = words;
        sentences++;
        if (!DOCUMENT.isEmpty() && !DOCUMENT.contains(oneLine(words))) {
            wrong++;
            System.out.println("the document does not say: " + words);
        }
    }

    static void due(String call, long got, long want) {
        answers++;
        if (got != want) {
            wrong++;
            System.out.println("[" + sentence + "] " + call + " answered " + got + ", due is " + want);
        }
    }

    static void due(String call, String got, String want) {
        answers++;
        if (!got.equals(want)) {
            wrong++;
            System.out.println("[" + sentence + "] " + call + " answered " + got + ", due is " + want);
        }
    }

    static void end() {
        System.out.println(wrong == 0 ? sentences + " sentences hold, by " + answers + " answers"
            : wrong + " answers are not as due");
        if (wrong != 0) {
            System.exit(1);
        }
    }

    // ---- objects made quickly

    static HatterTunes heads(int... kindsAndNumbers) {
        HatterTunes x = new HatterTunes();
        for (int k = 0; k < kindsAndNumbers.length; k += 2) {
            due("head", x.head(kindsAndNumbers[k], kindsAndNumbers[k + 1]), k / 2);
        }
        return x;
    }

    static void write(HatterTunes x, String text) {
        int had = x.count(5);
        for (int k = 0; k < text.length(); k++) {
            due("feed of " + text, x.feed(text.charAt(k)), had + k + 1);
        }
    }

    static int shop(HatterTunes x, String text) {
        write(x, text);
        return x.shop();
    }

    /** A SHOP that there can be: its number is how many there were. */
    static void holds(HatterTunes x, String text) {
        int had = x.count(1);
        due("shop of " + text, shop(x, text), had);
    }

    static void tune(HatterTunes x, String notes) {
        x.note(-1);
        for (int k = 0; k < notes.length(); k++) {
            due("note of " + notes, x.note(notes.charAt(k) - '0'), k + 1);
        }
    }

    static void bumps(HatterTunes x, int head, String digits) {
        for (int b = 0; b < 6; b++) {
            x.press(head, b, digits.charAt(b) - '0');
        }
    }

    /** The BUMPS of a HEAD, as digits. */
    static String bumps(HatterTunes x, int head) {
        StringBuilder digits = new StringBuilder();
        for (int b = 0; b < 6; b++) {
            digits.append(x.of(head, 10 + b));
        }
        return digits.toString();
    }

    /** SOUND, with all its six digits. */
    static String sound(HatterTunes x, int head) {
        return String.format("%06d", x.of(head, 3));
    }

    /** From YEAR to YEAR, sixty at a time. */
    static void until(HatterTunes x, int year) {
        int now = x.told(0);
        while (now < year) {
            int n = Math.min(60, year - now);
            due("pass", x.pass(n), now + n);
            now += n;
        }
    }
}
