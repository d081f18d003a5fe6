import java.io.IOException;
import java.lang.reflect.Constructor;
import java.lang.reflect.Field;
import java.lang.reflect.Method;
import java.lang.reflect.Modifier;
import java.nio.file.Files;
import java.nio.file.Path;
import java.util.Arrays;
import java.util.List;
import java.util.Map;
import java.util.Set;
import java.util.TreeMap;
import java.util.TreeSet;
import java.util.regex.Matcher;
import java.util.regex.Pattern;

/** The public face is the document's, and the source keeps to what LANGUAGE.md says, as far as words show it. */
public final class FaceTest {
    private static final List<String> FACE = List.of(
        "public static final int NIL = 0",
        "public static final int NUMBER = 1",
        "public static final int PAIR = 2",
        "public static final int BLOB = 3",
        "public static final int BAD = -1",
        "public static final int NO_ROOM = -2",
        "public static final int NOT_SO = -3",
        "public ProcessHeaps()",
        "public int ProcessHeaps.number(int,int,int)",
        "public int ProcessHeaps.move(int,int,int)",
        "public int ProcessHeaps.nil(int,int)",
        "public int ProcessHeaps.blob(int,int)",
        "public int ProcessHeaps.pair(int,int,int,int)",
        "public int ProcessHeaps.part(int,int,int,boolean)",
        "public int ProcessHeaps.send(int,int,int)",
        "public int ProcessHeaps.receive(int,int)",
        "public int ProcessHeaps.collect(int)",
        "public int ProcessHeaps.restart(int)",
        "public int ProcessHeaps.kind(int,int)",
        "public int ProcessHeaps.value(int,int)",
        "public int ProcessHeaps.same(int,int,int)",
        "public int ProcessHeaps.pairs(int)",
        "public int ProcessHeaps.blobs()");

    private static final String RULED_OUT = "\\b(import|package|float|double|String|Object|Math|Integer|System"
        + "|Arrays|null|throw|throws|try|catch|finally|synchronized|assert|instanceof|protected|interface|enum"
        + "|record|this|super)\\b|->|::|\"|'";

    private static final Pattern METHOD = Pattern.compile(
        "(?ms)^    (?:public|private)(?: static)? \\w+ (\\w+)\\([^)]*\\) \\{\n(.*?)^    \\}$");
    private static final Pattern CALL = Pattern.compile("\\b(\\w+)\\(");
    private static final int LONGEST_METHOD = 60;
    private static final int DEEPEST_CALL = 6;
    private static final int MOST_FIELDS = 40;

    private FaceTest() {
    }

    public static void main(String[] args) throws IOException, IllegalAccessException {
        faceIsTheDocuments();
        namesAreNotSharedWithPrivateMethods();
        fieldsAreWithinTheRules();
        String code = code();
        wordsAreWithinTheRules(code);
        callsAreWithinTheRules(code);
        Due.end();
    }

    private static void faceIsTheDocuments() throws IllegalAccessException {
        Set<String> members = new TreeSet<>();
        for (Field field : ProcessHeaps.class.getDeclaredFields()) {
            if (!Modifier.isPrivate(field.getModifiers())) {
                String value = Modifier.isStatic(field.getModifiers()) ? " = " + field.get(null) : "";
                String words = Modifier.toString(field.getModifiers()) + " " + field.getType();
                members.add(words + " " + field.getName() + value);
            }
        }
        for (Constructor<?> constructor : ProcessHeaps.class.getDeclaredConstructors()) {
            members.add(constructor.toString());
        }
        for (Method method : ProcessHeaps.class.getDeclaredMethods()) {
            if (!Modifier.isPrivate(method.getModifiers())) {
                members.add(method.toString());
            }
        }
        if (!members.equals(new TreeSet<>(FACE))) {
            Due.tell("the face is " + members);
        }
        Due.due(Modifier.PUBLIC | Modifier.FINAL, ProcessHeaps.class.getModifiers());
        Due.due(0, ProcessHeaps.class.getDeclaredClasses().length);
        Due.due(0, ProcessHeaps.class.getInterfaces().length);
    }

    private static void namesAreNotSharedWithPrivateMethods() {
        Set<String> names = new TreeSet<>();
        for (Method method : ProcessHeaps.class.getDeclaredMethods()) {
            if (!names.add(method.getName())) {
                Due.tell("two methods bear the name " + method.getName());
            }
            if (method.getParameterCount() > 7 || method.getReturnType().isArray()) {
                Due.tell(method + " takes too much or answers an array");
            }
        }
    }

    private static void fieldsAreWithinTheRules() {
        int count = 0;
        List<Class<?>> types = Arrays.asList(int.class, boolean.class, int[].class, boolean[].class);
        for (Field field : ProcessHeaps.class.getDeclaredFields()) {
            boolean constant = Modifier.isStatic(field.getModifiers());
            boolean array = field.getType().isArray();
            count += constant ? 0 : 1;
            if (!types.contains(field.getType())) {
                Due.tell(field + " has another type than the class needs");
            }
            if (constant && (field.getType() != int.class || !Modifier.isFinal(field.getModifiers()))) {
                Due.tell(field + " is static and no constant of int");
            }
            if (array && !Modifier.isFinal(field.getModifiers())) {
                Due.tell(field + " could become another array");
            }
        }
        if (count > MOST_FIELDS) {
            Due.tell("the class has " + count + " fields");
        }
    }

    /** The source without its comments. */
    private static String code() throws IOException {
        String source = Files.readString(Path.of("src/main/java/ProcessHeaps.java"));
        return source.replaceAll("(?s)/\\*.*?\\*/", "").replaceAll("//[^\n]*", "");
    }

    private static void wordsAreWithinTheRules(String code) {
        Matcher matcher = Pattern.compile(RULED_OUT).matcher(code);
        while (matcher.find()) {
            Due.tell("the source has the word " + matcher.group());
        }
        for (String line : code.split("\n")) {
            boolean field = line.startsWith("    private final ");
            if (line.matches(".*\\bnew\\b.*") && !field) {
                Due.tell("something is made outside of the fields: " + line.trim());
            }
        }
    }

    private static void callsAreWithinTheRules(String code) {
        Map<String, String> bodies = new TreeMap<>();
        Matcher matcher = METHOD.matcher(code);
        while (matcher.find()) {
            bodies.put(matcher.group(1), matcher.group(2));
        }
        if (bodies.size() != ProcessHeaps.class.getDeclaredMethods().length) {
            Due.tell("only these methods were found: " + bodies.keySet());
        }
        for (String name : bodies.keySet()) {
            String body = bodies.get(name);
            if (body.split("\n").length > LONGEST_METHOD) {
                Due.tell(name + " is too long");
            }
            if (depth(name, bodies, DEEPEST_CALL) > DEEPEST_CALL) {
                Due.tell("calls go too deep or in a circle from " + name);
            }
            noCallStandsInAnother(name, body, bodies.keySet());
        }
    }

    /** How deep calls go from the method; more than the limit if they go deeper or never end. */
    private static int depth(String name, Map<String, String> bodies, int limit) {
        int deepest = 0;
        Matcher matcher = CALL.matcher(bodies.get(name));
        while (limit > 0 && matcher.find()) {
            if (bodies.containsKey(matcher.group(1))) {
                deepest = Math.max(deepest, depth(matcher.group(1), bodies, limit - 1));
            }
        }
        return 1 + deepest;
    }

    private static void noCallStandsInAnother(String name, String body, Set<String> methods) {
        Matcher outer = CALL.matcher(body);
        while (outer.find()) {
            String arguments = arguments(body, outer.end());
            Matcher inner = CALL.matcher(arguments);
            while (methods.contains(outer.group(1)) && inner.find()) {
                Due.tell("in " + name + " a call stands inside of " + outer.group(1) + "(" + arguments + ")");
            }
        }
    }

    /** What stands from there to the bracket that closes. */
    private static String arguments(String body, int start) {
        int open = 1;
        int end = start;
        while (end < body.length() && open > 0) {
            open += body.charAt(end) == '(' ? 1 : body.charAt(end) == ')' ? -1 : 0;
            end++;
        }
        return body.substring(start, end - 1);
    }
}
