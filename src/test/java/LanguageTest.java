import java.io.IOException;
import java.lang.reflect.Constructor;
import java.lang.reflect.Field;
import java.lang.reflect.Method;
import java.lang.reflect.Modifier;
import java.nio.file.Files;
import java.nio.file.Path;
import java.util.ArrayList;
import java.util.Arrays;
import java.util.HashSet;
import java.util.List;
import java.util.Set;
import java.util.TreeSet;

/** What ../shared/LANGUAGE.md asks of src/main/java/HatterTunes.java, as far as it can be looked up. Run at the project's root. */
public final class LanguageTest {
    private static final String[] FACE = {
        "int head(int,int)", "int of(int,int)", "int press(int,int,int)", "int note(int)", "int row(int,int,int)",
        "int feed(int)", "int shop()", "int told(int)", "int pass(int)", "int on(int,int,int)", "int shared(int,int)",
        "int anthem(int,int)", "int see(int,int,int,int)", "int can(int,int)", "long odds(int,int)", "long mean(int,int)",
        "int plan(int,int)", "int ends(int)", "int book(int,int)", "int looked()", "int judge(int,int)", "int image()",
        "int undo()", "int act(int,int,int)", "int trace(int)", "int taken(int,int)", "int count(int)",
        "int tape(int,int,int)", "int item(int,int,long)", "long read(int,int)", "int shift(int,int,int,int,int)",
    };
    private static final String[] CONSTANTS = {"NONE", "BAD", "STATE", "FULL", "NO"};
    private static final String[] FORBIDDEN = {
        "\\bthrow", "\\btry\\b", "\\bcatch\\b", "\\bfinally\\b", "\\bsynchronized\\b", "\\bassert\\b", "\\bimport\\b",
        "->", "::", "Exact\\(", "\\bequals\\(", "\\bhashCode\\(", "\\btoString\\(", "\\bSystem\\.(?!arraycopy)",
        "\\bRandom\\b", "\\bThread\\b", "\\bwhile\\b", "\\bpublic static (?!final)", "\\bprotected\\b", "\\benum\\b",
    };
    private static int wrong = 0;

    public static void main(String[] args) throws IOException {
        face();
        nested();
        source();
        System.out.println(wrong == 0 ? "the language is kept to" : wrong + " rules are not kept to");
        if (wrong != 0) {
            System.exit(1);
        }
    }

    private static void must(boolean kept, String rule) {
        if (!kept) {
            wrong++;
            System.out.println("not kept: " + rule);
        }
    }

    private static void face() {
        Set<String> seen = new TreeSet<>();
        Set<String> hidden = new HashSet<>();
        Set<String> open = new HashSet<>();
        for (Method m : HatterTunes.class.getDeclaredMethods()) {
            if (Modifier.isPrivate(m.getModifiers())) {
                hidden.add(m.getName());
                continue;
            }
            List<String> types = new ArrayList<>();
            for (Class<?> type : m.getParameterTypes()) {
                types.add(type.getName());
            }
            open.add(m.getName());
            seen.add(m.getReturnType().getName() + " " + m.getName() + "(" + String.join(",", types) + ")");
            must(Modifier.isPublic(m.getModifiers()) && !Modifier.isStatic(m.getModifiers()), "1: " + m);
        }
        must(seen.equals(new TreeSet<>(Arrays.asList(FACE))), "1: the face is " + seen);
        hidden.retainAll(open);
        must(hidden.isEmpty(), "1: private methods with a public one's name " + hidden);
        for (Field f : HatterTunes.class.getDeclaredFields()) {
            boolean constant = Arrays.asList(CONSTANTS).contains(f.getName());
            must(constant ? Modifier.isPublic(f.getModifiers()) : Modifier.isPrivate(f.getModifiers()), "1: " + f);
        }
        Constructor<?>[] constructors = HatterTunes.class.getDeclaredConstructors();
        must(constructors.length == 1 && Modifier.isPublic(constructors[0].getModifiers()), "1: constructors");
        must(Modifier.isFinal(HatterTunes.class.getModifiers()), "1: final");
    }

    private static void nested() {
        List<Class<?>> all = new ArrayList<>(Arrays.asList(HatterTunes.class.getDeclaredClasses()));
        must(all.size() < 12, "11: some twelve classes");
        for (Class<?> c : all) {
            must(Modifier.isStatic(c.getModifiers()) && !Modifier.isPublic(c.getModifiers()), "2: " + c);
        }
        all.add(HatterTunes.class);
        for (Class<?> c : all) {
            int fields = 0;
            for (Field f : c.getDeclaredFields()) {
                boolean fixed = Modifier.isStatic(f.getModifiers());
                fields += fixed ? 0 : 1;
                must(!fixed || Modifier.isFinal(f.getModifiers()), "5: " + f);
            }
            must(fields <= 20, "11: fields of " + c);
            for (Method m : c.getDeclaredMethods()) {
                must(m.getParameterCount() <= 7, "11: parameters of " + m);
                must(!m.isSynthetic(), "2: " + m);
            }
        }
    }

    private static void source() throws IOException {
        List<String> lines = Files.readAllLines(Path.of("src/main/java/HatterTunes.java"));
        int methodFrom = 0;
        for (int k = 0; k < lines.size(); k++) {
            String line = lines.get(k);
            String code = line.replaceAll("\"[^\"]*\"", "\"\"");
            boolean comment = code.trim().startsWith("//") || code.trim().startsWith("/*") || code.trim().startsWith("*");
            must(line.chars().allMatch(c -> c > 0 && c < 128), "4: line " + (k + 1));
            for (String word : FORBIDDEN) {
                must(comment || !code.matches(".*" + word + ".*"), word + " in line " + (k + 1));
            }
            // What is made by a call is counted: so all is made with the object.
            must(comment || !code.contains("new ") || code.matches("\\s*((private )?final .*|Shop shop|shops\\[s\\]|tapes\\[t\\]|cells) = new .*"),
                "12: line " + (k + 1));
            if (code.matches(" {4}(?: {4})?\\S.*\\) \\{")) {
                methodFrom = k;
            }
            must(!code.matches(" {4}(?: {4})?\\}") || k - methodFrom <= 60 || code.matches(" {4}\\}"), "11: line " + (k + 1));
        }
    }
}
