import java.io.IOException;
import java.lang.reflect.Constructor;
import java.lang.reflect.Field;
import java.lang.reflect.Method;
import java.lang.reflect.Modifier;
import java.nio.file.Files;
import java.nio.file.Path;
import java.util.Arrays;
import java.util.List;
import java.util.Set;
import java.util.TreeSet;
import java.util.regex.Matcher;
import java.util.regex.Pattern;

/** The public face is the document's, and the source has no word that LANGUAGE.md rules out. */
public final class FaceTest {
    private static final List<String> FACE = List.of(
        "public static final int NIL = 0",
        "public static final int NUMBER = 1",
        "public static final int PAIR = 2",
        "public static final int BLOB = 3",
        "public static final int BAD = -1",
        "public static final int NO_ROOM = -2",
        "public static final int NOT_SO = -3",
        "public ProcessHeaps()",
        "public int ProcessHeaps.number(int,int,int)",
        "public int ProcessHeaps.move(int,int,int)",
        "public int ProcessHeaps.nil(int,int)",
        "public int ProcessHeaps.blob(int,int)",
        "public int ProcessHeaps.pair(int,int,int,int)",
        "public int ProcessHeaps.part(int,int,int,boolean)",
        "public int ProcessHeaps.send(int,int,int)",
        "public int ProcessHeaps.receive(int,int)",
        "public int ProcessHeaps.collect(int)",
        "public int ProcessHeaps.restart(int)",
        "public int ProcessHeaps.kind(int,int)",
        "public int ProcessHeaps.value(int,int)",
        "public int ProcessHeaps.same(int,int,int)",
        "public int ProcessHeaps.pairs(int)",
        "public int ProcessHeaps.blobs()");

    private static final String RULED_OUT = "\\b(import|package|float|double|String|Object|Math|Integer|System"
        + "|Arrays|null|throw|throws|try|catch|finally|synchronized|assert|instanceof|protected|interface|enum"
        + "|record|this|super)\\b|->|::|\"|'";

    private FaceTest() {
    }

    public static void main(String[] args) throws IOException, IllegalAccessException {
        faceIsTheDocuments();
        namesAreNotSharedWithPrivateMethods();
        fieldsAreWithinTheRules();
        sourceIsWithinTheRules();
        Due.end();
    }

    private static void faceIsTheDocuments() throws IllegalAccessException {
        Set<String> members = new TreeSet<>();
        for (Field field : ProcessHeaps.class.getDeclaredFields()) {
            if (!Modifier.isPrivate(field.getModifiers())) {
                String value = Modifier.isStatic(field.getModifiers()) ? " = " + field.get(null) : "";
                String words = Modifier.toString(field.getModifiers()) + " " + field.getType();
                members.add(words + " " + field.getName() + value);
            }
        }
        for (Constructor<?> constructor : ProcessHeaps.class.getDeclaredConstructors()) {
            members.add(constructor.toString());
        }
        for (Method method : ProcessHeaps.class.getDeclaredMethods()) {
            if (!Modifier.isPrivate(method.getModifiers())) {
                members.add(method.toString());
            }
        }
        if (!members.equals(new TreeSet<>(FACE))) {
            Due.tell("the face is " + members);
        }
        Due.due(Modifier.PUBLIC | Modifier.FINAL, ProcessHeaps.class.getModifiers());
        Due.due(0, ProcessHeaps.class.getDeclaredClasses().length);
        Due.due(0, ProcessHeaps.class.getInterfaces().length);
    }

    private static void namesAreNotSharedWithPrivateMethods() {
        Set<String> names = new TreeSet<>();
        for (Method method : ProcessHeaps.class.getDeclaredMethods()) {
            if (!names.add(method.getName())) {
                Due.tell("two methods bear the name " + method.getName());
            }
            if (method.getParameterCount() > 7 || method.getReturnType().isArray()) {
                Due.tell(method + " takes too much or answers an array");
            }
        }
    }

    private static void fieldsAreWithinTheRules() {
        List<Class<?>> types = Arrays.asList(int.class, boolean.class, int[].class, boolean[].class);
        for (Field field : ProcessHeaps.class.getDeclaredFields()) {
            boolean constant = Modifier.isStatic(field.getModifiers());
            boolean array = field.getType().isArray();
            if (!types.contains(field.getType())) {
                Due.tell(field + " has another type than the class needs");
            }
            if (constant && (field.getType() != int.class || !Modifier.isFinal(field.getModifiers()))) {
                Due.tell(field + " is static and no constant of int");
            }
            if (array && !Modifier.isFinal(field.getModifiers())) {
                Due.tell(field + " could become another array");
            }
        }
    }

    private static void sourceIsWithinTheRules() throws IOException {
        String source = Files.readString(Path.of("src/main/java/ProcessHeaps.java"));
        String code = source.replaceAll("(?s)/\\*.*?\\*/", "").replaceAll("//[^\n]*", "");
        Matcher matcher = Pattern.compile(RULED_OUT).matcher(code);
        while (matcher.find()) {
            Due.tell("the source has the word " + matcher.group());
        }
        for (String line : code.split("\n")) {
            boolean field = line.startsWith("    private final ");
            if (line.matches(".*\\bnew\\b.*") && !field) {
                Due.tell("something is made outside of the fields: " + line.trim());
            }
        }
    }
}
