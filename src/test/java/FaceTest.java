import java.io.IOException;
import java.lang.reflect.Constructor;
import java.lang.reflect.Field;
import java.lang.reflect.Method;
import java.lang.reflect.Modifier;
import java.nio.file.Files;
import java.nio.file.Path;
import java.util.Set;
import java.util.TreeSet;
import java.util.regex.Matcher;
import java.util.regex.Pattern;

/** The public face, and the rules of LANGUAGE.md that class and source can be asked for. */
public final class FaceTest {
    private static final Checks CHECKS = new Checks();
    private static final Path SOURCE = Path.of("src/main/java/RingPost.java");

    private static final Set<String> METHODS = Set.of("int ring(int)", "int reader(int,int,int)", "int join(int,int)",
        "int name(int,int)", "int circle(int)", "int begin()", "int made()", "int claim(int,long)",
        "int batch(int,long,int)", "int by()", "int again()", "int fill(int,int,int,long)",
        "int copy(int,int,int,int,int)", "int publish(int,int,int,int)", "int close(int)", "int give(int)",
        "int told(int,int)", "long last(int)", "int read(int)", "int round()", "long got(int,int)",
        "long word(int,int)", "int of(int,int)", "int place(int,int)", "int named(int,int)", "int entry(int,int)",
        "int target(int)", "int why(int)", "int on(int)", "boolean stuck()", "int found(int)");
    private static final Set<String> CONSTANTS = Set.of("NUMBER = -1", "STATE = -2", "KIND = -3", "FULL = -4",
        "THERE = -5", "CIRCLE = -6", "GIVEN = -7", "CLOSED = -8", "FALLS = -9", "HELD = -10", "NOT = -11",
        "FOUND = -12");
    /** Words that no rule leaves (rules 1, 3, 6 and 13). */
    private static final Set<String> BARRED = Set.of("throw", "throws", "try", "catch", "finally", "synchronized",
        "assert", "package", "hashCode", "Object", "Thread", "Random", "volatile", "native");
    private static final Set<String> IMPORTS = Set.of("java.util.Arrays", "java.util.ArrayList", "java.util.List",
        "java.util.Iterator");
    /** Rule 4; of Math, Integer and Long all static functions whose names don't end in Exact. */
    private static final Set<String> LIBRARY = Set.of("System.arraycopy", "Arrays.copyOf", "Arrays.copyOfRange",
        "Arrays.fill", "List.of");

    public static void main(String[] args) throws ReflectiveOperationException, IOException {
        face();
        insideClasses();
        source();
        CHECKS.end();
    }

    private static void same(String what, Set<String> seen, Set<String> want) {
        boolean equal = seen.equals(want);
        CHECKS.due(what, equal, true);
        if (!equal) {
            System.out.println("  seen " + new TreeSet<>(seen));
            System.out.println("  due  " + new TreeSet<>(want));
        }
    }

    private static void face() throws ReflectiveOperationException {
        CHECKS.part("rule 1, the face");
        Class<?> face = RingPost.class;
        CHECKS.due("public", Modifier.isPublic(face.getModifiers()), true);
        CHECKS.due("final", Modifier.isFinal(face.getModifiers()), true);
        Set<String> constants = new TreeSet<>();
        for (Field each : face.getDeclaredFields()) {
            if (!Modifier.isPrivate(each.getModifiers())) {
                CHECKS.due(each.getName() + " is public static final", each.getModifiers(),
                    Modifier.PUBLIC | Modifier.STATIC | Modifier.FINAL);
                constants.add(each.getName() + " = " + each.getInt(null));
            }
            CHECKS.due(each.getName() + " is no changing static",
                Modifier.isStatic(each.getModifiers()) && !Modifier.isFinal(each.getModifiers()), false);
        }
        same("constants", constants, CONSTANTS);
        Set<String> methods = new TreeSet<>();
        Set<String> publicNames = new TreeSet<>();
        for (Method each : face.getDeclaredMethods()) {
            if (!Modifier.isPrivate(each.getModifiers())) {
                CHECKS.due(each.getName() + " is public alone", each.getModifiers(), Modifier.PUBLIC);
                methods.add(signature(each));
                publicNames.add(each.getName());
            }
        }
        same("methods", methods, METHODS);
        for (Method each : face.getDeclaredMethods()) {
            boolean hides = Modifier.isPrivate(each.getModifiers()) && publicNames.contains(each.getName());
            CHECKS.due(each.getName() + " is a private name of its own", hides, false);
            CHECKS.due(each.getName() + " takes seven at most", each.getParameterCount() <= 7, true);
        }
        Constructor<?>[] constructors = face.getDeclaredConstructors();
        CHECKS.due("constructors", constructors.length, 1);
        CHECKS.due("its parameters", constructors[0].getParameterCount(), 0);
        CHECKS.due("it is public", Modifier.isPublic(constructors[0].getModifiers()), true);
    }

    private static String signature(Method method) {
        StringBuilder text = new StringBuilder(method.getReturnType() + " " + method.getName() + "(");
        for (Class<?> each : method.getParameterTypes()) {
            text.append(text.charAt(text.length() - 1) == '(' ? "" : ",").append(each);
        }
        return text.append(')').toString();
    }

    private static void insideClasses() {
        CHECKS.part("rules 1, 2, 5 and 11, the classes inside");
        Class<?>[] inside = RingPost.class.getDeclaredClasses();
        CHECKS.due("twelve at most", inside.length <= 12, true);
        for (Class<?> each : inside) {
            CHECKS.due(each + " is static", Modifier.isStatic(each.getModifiers()), true);
            CHECKS.due(each + " isn't public",
                Modifier.isPublic(each.getModifiers()) || Modifier.isProtected(each.getModifiers()), false);
            int fields = 0;
            for (Field field : each.getDeclaredFields()) {
                boolean isStatic = Modifier.isStatic(field.getModifiers());
                CHECKS.due(each + " " + field.getName() + " is no changing static",
                    isStatic && !Modifier.isFinal(field.getModifiers()), false);
                fields += isStatic ? 0 : 1;
            }
            CHECKS.due(each + " has twenty fields at most", fields <= 20, true);
        }
    }

    private static void source() throws IOException {
        CHECKS.part("rules 3, 4, 6 and 13, the source");
        String text = Files.readString(SOURCE).replaceAll("(?s)/\\*.*?\\*/", "").replaceAll("//[^\n]*", "");
        for (String word : found("[A-Za-z]+", text)) {
            CHECKS.due("'" + word + "' isn't barred", BARRED.contains(word), false);
        }
        for (String line : found("(?m)^import [^;]*", text)) {
            CHECKS.due(line, IMPORTS.contains(line.substring("import ".length())), true);
        }
        for (String line : found("(?m)^.*->", text)) {
            CHECKS.due("no lambda: " + line.trim(), line.trim().matches("(case .*|default) ->"), true);
        }
        CHECKS.due("no method reference", text.contains("::"), false);
        for (String call : found("\\b(Math|Integer|Long)\\.\\w+", text)) {
            CHECKS.due(call + " isn't Exact", call.endsWith("Exact"), false);
        }
        for (String call : found("\\b(System|Arrays|List|String|StringBuilder|Character|Runtime)\\.\\w+", text)) {
            CHECKS.due(call + " is of the library that is left", LIBRARY.contains(call), true);
        }
    }

    private static Set<String> found(String pattern, String text) {
        Set<String> all = new TreeSet<>();
        Matcher matcher = Pattern.compile(pattern).matcher(text);
        while (matcher.find()) {
            all.add(matcher.group());
        }
        return all;
    }
}
