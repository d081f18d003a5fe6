import java.io.IOException;
import java.lang.reflect.Method;
import java.lang.reflect.Modifier;
import java.nio.file.Files;
import java.nio.file.Path;
import java.util.List;
import java.util.Set;
import java.util.TreeSet;
import java.util.regex.Matcher;
import java.util.regex.Pattern;

/** README.md says how to use the class: its example answers what it says, and its table has every call. */
public final class ReadmeTest {
    private static final Pattern EXAMPLE = Pattern.compile("heaps\\.(\\w+)\\((.*?)\\); +// (-?\\w+): .*");
    private static final Pattern ROW = Pattern.compile("\\| `(\\w+)\\((.*?)\\)` (\\| [^|]+ ){3}\\|");
    private static final int FEWEST_EXAMPLES = 10;

    private ReadmeTest() {
    }

    public static void main(String[] args) throws IOException, ReflectiveOperationException {
        List<String> lines = Files.readAllLines(Path.of("README.md"));
        examplesAnswerWhatTheySay(lines);
        tableHasEveryCall(lines);
        limitIsNamed(lines);
        Due.end();
    }

    private static void examplesAnswerWhatTheySay(List<String> lines) throws ReflectiveOperationException {
        ProcessHeaps heaps = new ProcessHeaps();
        int count = 0;
        for (String line : lines) {
            if (line.startsWith("heaps.")) {
                answersWhatItSays(heaps, line);
                count++;
            }
        }
        if (count < FEWEST_EXAMPLES) {
            Due.tell("only " + count + " lines of the example were found");
        }
    }

    private static void answersWhatItSays(ProcessHeaps heaps, String line) throws ReflectiveOperationException {
        Due.by(line);
        Matcher matcher = EXAMPLE.matcher(line);
        if (!matcher.matches()) {
            Due.tell("the line can't be read");
            return;
        }
        String[] words = words(matcher.group(2));
        Method method = methodOf(matcher.group(1));
        if (method == null || method.getParameterCount() != words.length) {
            Due.tell("there is no such call");
            return;
        }
        Object[] arguments = new Object[words.length];
        for (int i = 0; i < words.length; i++) {
            boolean flag = method.getParameterTypes()[i] == boolean.class;
            arguments[i] = flag ? (Object) Boolean.valueOf(words[i]) : (Object) Integer.valueOf(words[i]);
        }
        Due.due(number(matcher.group(3)), (Integer) method.invoke(heaps, arguments));
        Due.by("");
    }

    private static void tableHasEveryCall(List<String> lines) {
        Set<String> told = new TreeSet<>();
        for (String line : lines) {
            Matcher matcher = ROW.matcher(line);
            if (matcher.matches()) {
                told.add(matcher.group(1) + " of " + words(matcher.group(2)).length);
            }
        }
        Set<String> calls = new TreeSet<>();
        for (Method method : ProcessHeaps.class.getDeclaredMethods()) {
            if (Modifier.isPublic(method.getModifiers())) {
                calls.add(method.getName() + " of " + method.getParameterCount());
            }
        }
        if (!told.equals(calls)) {
            Due.tell("the table has " + told + ", the class has " + calls);
        }
    }

    private static void limitIsNamed(List<String> lines) {
        if (!String.join(" ", lines).contains("at most 512 calls")) {
            Due.tell("it is not said for how many calls an object is used");
        }
    }

    private static String[] words(String list) {
        return list.isEmpty() ? new String[0] : list.split(", ");
    }

    private static Method methodOf(String name) {
        for (Method method : ProcessHeaps.class.getDeclaredMethods()) {
            if (Modifier.isPublic(method.getModifiers()) && method.getName().equals(name)) {
                return method;
            }
        }
        return null;
    }

    /** A number, or the name of a constant of the class. */
    private static int number(String word) throws ReflectiveOperationException {
        return word.matches("-?\\d+") ? Integer.parseInt(word) : ProcessHeaps.class.getField(word).getInt(null);
    }
}
