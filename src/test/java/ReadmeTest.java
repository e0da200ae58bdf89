import java.io.IOException;
import java.lang.reflect.Method;
import java.lang.reflect.Modifier;
import java.nio.file.Files;
import java.nio.file.Path;
import java.util.HashMap;
import java.util.Map;
import java.util.Set;
import java.util.TreeSet;
import java.util.regex.Matcher;
import java.util.regex.Pattern;

/**
 * Runs the calls that README.md shows and looks whether they are answered as README.md says. It
 * reads README.md itself, so that the two cannot come apart; run it in the project's directory.
 */
public final class ReadmeTest {
    private static final Pattern MAKING = Pattern.compile("ChainCover (\\w+) = new ChainCover\\(\\);");
    private static final Pattern CALL =
        Pattern.compile("(\\w+)\\.(\\w+)\\(([-\\w, ]*)\\); +// (-?\\w+)(: .*)?");

    private final Map<String, ChainCover> objects = new HashMap<>();
    private final Set<String> shown = new TreeSet<>();

    private ReadmeTest() {
    }

    public static void main(String[] args) throws IOException, ReflectiveOperationException {
        ReadmeTest test = new ReadmeTest();
        boolean inside = false;
        for (String line : Files.readAllLines(Path.of("README.md"))) {
            if (line.startsWith("```")) {
                inside = line.equals("```java");
            } else if (inside && !line.isBlank()) {
                test.run(line);
            }
        }
        Check.dueText("what README.md shows", test.shown.toString(), methods().toString());
        Check.end();
    }

    private void run(String line) throws ReflectiveOperationException {
        Matcher making = MAKING.matcher(line);
        Matcher call = CALL.matcher(line);
        if (making.matches()) {
            objects.put(making.group(1), new ChainCover());
        } else if (call.matches() && objects.containsKey(call.group(1))) {
            shown.add(call.group(2));
            String got = answer(objects.get(call.group(1)), call.group(2), call.group(3));
            Check.dueText("README.md: " + line, got, plain(call.group(4)));
        } else {
            Check.dueText("README.md: " + line, "no call with its answer", "a call with its answer");
        }
    }

    private static String answer(ChainCover x, String name, String row) throws ReflectiveOperationException {
        String[] words = row.isEmpty() ? new String[0] : row.split(", ");
        Class<?>[] types = new Class<?>[words.length];
        Object[] numbers = new Object[words.length];
        for (int i = 0; i < words.length; i++) {
            types[i] = int.class;
            numbers[i] = Integer.valueOf(plain(words[i]));
        }
        return ChainCover.class.getMethod(name, types).invoke(x, numbers).toString();
    }

    /** A number, a boolean or a constant as README.md writes it, in the form that Java prints. */
    private static String plain(String word) {
        if (word.equals("BAD")) {
            return Integer.toString(ChainCover.BAD);
        }
        if (word.equals("FULL")) {
            return Integer.toString(ChainCover.FULL);
        }
        return word.startsWith("0b") ? Integer.toString(Integer.parseInt(word.substring(2), 2)) : word;
    }

    private static Set<String> methods() {
        Set<String> names = new TreeSet<>();
        for (Method method : ChainCover.class.getDeclaredMethods()) {
            if (Modifier.isPublic(method.getModifiers())) {
                names.add(method.getName());
            }
        }
        return names;
    }
}
