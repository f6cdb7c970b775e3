import java.io.IOException;
import java.nio.file.Files;
import java.nio.file.Path;
import java.util.Set;

/** The rules of ../shared/LANGUAGE.md; and that Language, which tells them, sees what breaks them. */
public final class LanguageTest {
    private static final Path SOURCE = Path.of("src/main/java/RingPost.java");
    private static final Checks CHECKS = new Checks();

    public static void main(String[] args) throws IOException {
        program();
        breaches();
        noBreaches();
        CHECKS.end();
    }

    private static void program() throws IOException {
        CHECKS.part(SOURCE.toString());
        Language language = Language.of(Files.readString(SOURCE));
        for (String each : language.complaints()) {
            CHECKS.due(each, true, false);
        }
        CHECKS.part("terms, \"and nothing is made once the post has begun.\"");
        boolean isSo = language.makingMethods().equals(Set.of("RingPost.ring", "RingPost.reader"));
        CHECKS.due("something is made by " + language.makingMethods(), isSo, true);
    }

    private static void breaches() throws IOException {
        CHECKS.part("what breaks a rule is seen");
        sees(1, "protected int x;", "static final int X = 1;", "public int x;", "void x() { }",
            "protected void x() { }", "public static void x() { }", "private int begin(int i) { return i; }",
            "public static final class In { }", "protected static final class In { }");
        sees(2, "private final class In { }", "private void x() { class In { } }",
            "private void x() { Runnable r = () -> { }; }", "private void x() { Runnable r = this::begin; }",
            "private Object x() { return new Object() { }; }");
        sees(3, "private void x() { double d = 1; }", "private java.util.Map<String, String> x;",
            "private int[][][] x;", "private String[] x;", "private RingPost[][] x;",
            "private Object x() { return null; }");
        sees(4, "private void x() { System.nanoTime(); }", "private int x() { return Math.addExact(1, 2); }",
            "private double x() { return Math.random(); }", "private int x() { return hashCode(); }",
            "private int x() { return Integer.MAX_VALUE; }", "private int x(String s) { return s.compareTo(s); }",
            "private void x() { new java.util.HashMap<String, String>(); }",
            "private int x(String s) { return Integer.parseInt(s); }");
        sees(5, "private static int x;", "private static final long[] X = new long[3];", "static { }",
            "private static final RingPost X = new RingPost();", "private static final double[] X = {1};");
        sees(6, "private void x() { throw new IllegalStateException(); }",
            "private void x() { try { begin(); } finally { } }", "private void x() { synchronized (this) { } }",
            "private void x() { assert true; }", "private void x() throws Exception { }",
            "private RingPost x(Object o) { return (RingPost) o; }",
            "private boolean x(String s, String t) { return s == t; }");
        sees(7, "private int x(int i) { return 1 / i; }", "private int x(int i) { return 1 % i; }",
            "private void x(int i) { i /= i; }", "private int x(int i) { return i / 0; }",
            "private int x(int i) { return Math.floorMod(1, i); }");
        sees(8, "public int x() { return y(); } private int y() { return x(); }", "private void x() { x(); }");
        sees(9, "private void x() { while (true) { } }", "private void x() { do { } while (true); }",
            "private void x() { for (;;) { } }", "private void x() { for (int i = 0; i < 9; ) { } }",
            "private void x() { for (int i = 0; begin() > 0; i++) { } }",
            "private void x() { for (int i = 0; i < 9; i++) { i = 0; } }",
            "private void x() { for (int i = 0; i < 9; i++) { i--; } }",
            "private void x() { for (int i = 0; i < 9; i++) { i -= 1; } }");
        sees(10, "private String x(String s) { return s + 1; }", "private void x(String s) { s += 1; }");
        sees(11, "private void x(int a, int b, int c, int d, int e, int f, int g, int h) { }", longMethod(61),
            fields(21), deep(8), classesInside(12));
        sees(12, "private static final class In { In() { x(); } void x() { } }",
            "private static final class In { In() { y(this); } static void y(In in) { } }");
    }

    /** What the rules leave, up to their edges, isn't complained of. */
    private static void noBreaches() throws IOException {
        CHECKS.part("what breaks no rule isn't complained of");
        sees(0, "", fields(20), deep(7), classesInside(11), longMethod(60), "private int[][] x;",
            "private RingPost[] x;", "private int x(int i) { return i / 2 + Math.floorMod(i, 2); }",
            "private void x(int a, int b, int c, int d, int e, int f, int g) { }",
            "private void x() { for (int i = 0; i < 9; i++) { int j = i == 1 ? i : 0; } }",
            "private static final long[] X = {1};", "private int x(long l) { return (int) l; }");
    }

    /** In a class that keeps to the rules each of the texts breaks this one; if it is 0, it breaks none. */
    private static void sees(int rule, String... texts) throws IOException {
        for (String text : texts) {
            String source = "public final class RingPost { public int begin() { return 1; } " + text + " }";
            Set<String> complaints = Language.of(source).complaints();
            String due = "rule " + rule + ":";
            boolean isSeen = complaints.stream().anyMatch(each -> each.startsWith(due));
            CHECKS.due(due + " " + text + " " + complaints, rule == 0 ? complaints.isEmpty() : isSeen, true);
        }
    }

    private static String longMethod(int lines) {
        return "private void x() {" + "\n".repeat(lines - 1) + "}";
    }

    private static String fields(int count) {
        StringBuilder text = new StringBuilder();
        for (int i = 0; i < count; i++) {
            text.append("private int x").append(i).append("; ");
        }
        return text.toString();
    }

    /** A method that goes so deep, and the library's method below it. */
    private static String deep(int count) {
        StringBuilder text = new StringBuilder();
        for (int i = 1; i < count; i++) {
            text.append("private int x").append(i).append("() { return x").append(i + 1).append("(); } ");
        }
        return text + "private int x" + count + "() { return Math.abs(1); }";
    }

    private static String classesInside(int count) {
        StringBuilder text = new StringBuilder();
        for (int i = 0; i < count; i++) {
            text.append("private static final class In").append(i).append(" { } ");
        }
        return text.toString();
    }
}
