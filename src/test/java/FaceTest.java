import java.io.IOException;
import java.lang.reflect.Constructor;
import java.lang.reflect.Field;
import java.lang.reflect.Method;
import java.lang.reflect.Modifier;
import java.nio.file.Files;
import java.nio.file.Path;
import java.util.ArrayList;
import java.util.List;
import java.util.Set;
import java.util.TreeSet;
import java.util.regex.Matcher;
import java.util.regex.Pattern;

/** "The public face": every constant with its value, the constructor, every method with its types, and nothing else. */
public final class FaceTest {
    private static final Checks CHECKS = new Checks();
    private static final Path DOCUMENT = Path.of("../shared/DOC.md");
    private static final Path SOURCE = Path.of("src/main/java/RingPost.java");

    private static final Set<String> METHODS = Set.of("int ring(int)", "int reader(int,int,int)", "int join(int,int)",
        "int name(int,int)", "int circle(int)", "int begin()", "int made()", "int claim(int,long)",
        "int batch(int,long,int)", "int by()", "int again()", "int fill(int,int,int,long)",
        "int copy(int,int,int,int,int)", "int publish(int,int,int,int)", "int close(int)", "int give(int)",
        "int told(int,int)", "long last(int)", "int read(int)", "int round()", "long got(int,int)",
        "long word(int,int)", "int of(int,int)", "int place(int,int)", "int named(int,int)", "int entry(int,int)",
        "int target(int)", "int why(int)", "int on(int)", "boolean stuck()", "int found(int)");
    private static final Set<String> CONSTANTS = Set.of("NUMBER = -1", "STATE = -2", "KIND = -3", "FULL = -4",
        "THERE = -5", "CIRCLE = -6", "GIVEN = -7", "CLOSED = -8", "FALLS = -9", "HELD = -10", "NOT = -11",
        "FOUND = -12");

    public static void main(String[] args) throws ReflectiveOperationException, IOException {
        theClass();
        constants();
        methods();
        constructor();
        groups();
        if (Files.isReadable(DOCUMENT)) {
            document();
        } else {
            System.out.println(DOCUMENT + " is not there: whether this test has its face is not looked at");
        }
        CHECKS.end();
    }

    private static void same(String what, Set<String> seen, Set<String> want) {
        boolean equal = seen.equals(want);
        CHECKS.due(what, equal, true);
        if (!equal) {
            System.out.println("  seen " + new TreeSet<>(seen));
            System.out.println("  due  " + new TreeSet<>(want));
        }
    }

    private static void theClass() {
        CHECKS.part("the class");
        Class<?> face = RingPost.class;
        CHECKS.due("public and final", face.getModifiers(), Modifier.PUBLIC | Modifier.FINAL);
        CHECKS.due("in no package", face.getPackageName().isEmpty(), true);
        CHECKS.due("nothing above it", face.getSuperclass() == Object.class, true);
        CHECKS.due("interfaces", face.getInterfaces().length, 0);
        CHECKS.due("public classes inside", face.getClasses().length, 0);
    }

    private static void constants() throws ReflectiveOperationException {
        CHECKS.part("the constants");
        Set<String> constants = new TreeSet<>();
        for (Field each : RingPost.class.getDeclaredFields()) {
            if (!Modifier.isPrivate(each.getModifiers())) {
                CHECKS.due(each.getName() + " is public static final", each.getModifiers(),
                    Modifier.PUBLIC | Modifier.STATIC | Modifier.FINAL);
                CHECKS.due(each.getName() + " is an int", each.getType() == int.class, true);
                constants.add(each.getName() + " = " + each.getInt(null));
            }
        }
        same("constants", constants, CONSTANTS);
    }

    private static void methods() {
        CHECKS.part("the methods");
        Set<String> methods = new TreeSet<>();
        for (Method each : RingPost.class.getDeclaredMethods()) {
            if (!Modifier.isPrivate(each.getModifiers())) {
                CHECKS.due(each.getName() + " is public alone", each.getModifiers(), Modifier.PUBLIC);
                CHECKS.due(each.getName() + " throws", each.getExceptionTypes().length, 0);
                methods.add(signature(each));
            }
        }
        same("methods", methods, METHODS);
    }

    private static String signature(Method method) {
        List<String> types = new ArrayList<>();
        for (Class<?> each : method.getParameterTypes()) {
            types.add(each.toString());
        }
        return method.getReturnType() + " " + method.getName() + "(" + String.join(",", types) + ")";
    }

    private static void constructor() {
        CHECKS.part("the constructor");
        Constructor<?>[] constructors = RingPost.class.getDeclaredConstructors();
        CHECKS.due("constructors", constructors.length, 1);
        CHECKS.due("its parameters", constructors[0].getParameterCount(), 0);
        CHECKS.due("public", constructors[0].getModifiers(), Modifier.PUBLIC);
    }

    /** "Ahead of the calls .. the interface says: ---- ..". */
    private static void groups() throws IOException {
        CHECKS.part("where the calls stand");
        String text = Files.readString(SOURCE);
        stand(text, "ahead of the beginning", "ring reader join name circle begin made");
        stand(text, "writers", "claim batch by again fill copy publish close give told last");
        stand(text, "readers", "read round got word of place named entry target why on stuck found");
    }

    private static void stand(String text, String head, String calls) {
        int start = text.indexOf("// ---- " + head + "\n");
        CHECKS.due("---- " + head, start >= 0, true);
        int end = text.indexOf("// ----", start + 1);
        List<String> seen = found("(?m)^    public \\w+ (\\w+)\\(", text.substring(Math.max(0, start), end));
        CHECKS.due("---- " + head + " " + seen, String.join(" ", seen).equals(calls), true);
    }

    /** The face that is written out above is the document's. */
    private static void document() throws IOException {
        CHECKS.part(DOCUMENT.toString());
        String text = Files.readString(DOCUMENT);
        String face = text.substring(text.indexOf("```java"), text.indexOf("## Terms"));
        same("constants", new TreeSet<>(found("public static final int (\\w+ = -\\d+);", face)), CONSTANTS);
        Set<String> methods = new TreeSet<>();
        for (String each : found("public (\\w+ \\w+\\([^)]*\\));", face)) {
            methods.add(each.replaceAll("(int|long) \\w+(?=[,)])", "$1").replace(", ", ","));
        }
        same("methods", methods, METHODS);
        CHECKS.due("members", found("(?m)^    (public .*;)$", face).size(), CONSTANTS.size() + METHODS.size() + 1);
        for (String each : found("(Ahead of the calls [^\n]*)", text)) {
            String calls = String.join(" ", found("`(\\w+)`", each));
            String head = each.replaceAll(".*: ---- |\\.$", "");
            stand(Files.readString(SOURCE), head, calls);
        }
    }

    /** What the first group of a pattern has found, in order. */
    private static List<String> found(String pattern, String text) {
        List<String> all = new ArrayList<>();
        Matcher matcher = Pattern.compile(pattern).matcher(text);
        while (matcher.find()) {
            all.add(matcher.group(1));
        }
        return all;
    }
}
