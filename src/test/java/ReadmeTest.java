import java.io.IOException;
import java.lang.reflect.Method;
import java.lang.reflect.Modifier;
import java.nio.file.Files;
import java.nio.file.Path;
import java.util.HashMap;
import java.util.List;
import java.util.Map;
import java.util.Set;
import java.util.TreeSet;
import java.util.regex.Matcher;
import java.util.regex.Pattern;

/** What README.md shows of the class: each call there answers what stands behind it. Run at the project's root. */
public final class ReadmeTest {
    private static final Pattern CALL = Pattern.compile("x\\.(\\w+)\\((.*)\\);\\s*// (-?\\d+)(: .*)?");
    private static final Pattern FED = Pattern.compile("for \\(char sign : \"(.*)\"\\.toCharArray\\(\\)\\) x\\.feed\\(sign\\);");
    private static final String MADE = "HatterTunes x = new HatterTunes();";

    private static final Map<String, Method> face = new HashMap<>();
    private static final Set<String> unshown = new TreeSet<>();
    private static HatterTunes x;
    private static int wrong = 0;
    private static int answers = 0;

    public static void main(String[] args) throws Exception {
        for (Method call : HatterTunes.class.getDeclaredMethods()) {
            if (Modifier.isPublic(call.getModifiers())) {
                face.put(call.getName(), call);
                unshown.add(call.getName());
            }
        }
        for (String line : shownLines()) {
            run(line);
        }
        must(unshown.isEmpty(), "README.md does not show " + unshown);
        System.out.println(wrong == 0 ? answers + " answers are as README.md says" : wrong + " are not as README.md says");
        if (wrong != 0) {
            System.exit(1);
        }
    }

    private static void must(boolean so, String otherwise) {
        if (!so) {
            wrong++;
            System.out.println(otherwise);
        }
    }

    private static List<String> shownLines() throws IOException {
        String readme = Files.readString(Path.of("README.md"));
        int from = readme.indexOf("```java\n");
        int to = readme.indexOf("```\n", from + 1);
        must(from >= 0 && to > from, "README.md shows no calls");
        return from >= 0 && to > from ? List.of(readme.substring(from + 8, to).split("\n")) : List.of();
    }

    private static void run(String line) throws Exception {
        Matcher call = CALL.matcher(line);
        Matcher fed = FED.matcher(line);
        if (line.equals(MADE)) {
            x = new HatterTunes();
        } else if (call.matches()) {
            runCall(line, call.group(1), call.group(2), Long.parseLong(call.group(3)));
        } else if (fed.matches()) {
            unshown.remove("feed");
            fed.group(1).chars().forEach(x::feed);
        } else {
            must(line.isEmpty() || line.startsWith("// "), "not understood: " + line);
        }
    }

    private static void runCall(String line, String name, String numbers, long want) throws Exception {
        Method call = face.get(name);
        must(call != null, "no such call: " + line);
        if (call == null) {
            return;
        }
        unshown.remove(name);
        String[] given = numbers.isEmpty() ? new String[0] : numbers.split(", ");
        Class<?>[] types = call.getParameterTypes();
        Object[] arguments = new Object[types.length];
        must(given.length == types.length, "not so many numbers: " + line);
        for (int k = 0; k < Math.min(given.length, types.length); k++) {
            long number = Long.parseLong(given[k]);
            arguments[k] = types[k] == long.class ? (Object) number : (Object) (int) number;
        }
        long got = ((Number) call.invoke(x, arguments)).longValue();
        answers++;
        must(got == want, "answered " + got + ": " + line);
    }
}
