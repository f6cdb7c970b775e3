import java.lang.reflect.InvocationTargetException;
import java.lang.reflect.Method;
import java.lang.reflect.Modifier;
import java.util.ArrayList;
import java.util.HashMap;
import java.util.List;
import java.util.Map;

/**
 * A call of a RingPost, told as text: claim(0,5)=2 is the call claim(0, 5L), and 2 is due. Without an answer behind it
 * the call must not be refused.
 *
 * <p>A number may be MIN or MAX (of the int or long that is wanted there), a row 3..5, one number more than once 2*8,
 * or several of these with | between them; then there is a call for each. Their answers are told likewise: one for
 * each, or one for all. Answers may also be told by the names of the constants.
 */
final class Call {
    /** Written out once more, so that a constant of the program that is wrong is seen. */
    private static final List<String> REFUSALS = List.of("NUMBER", "STATE", "KIND", "FULL", "THERE", "CIRCLE", "GIVEN",
        "CLOSED", "FALLS", "HELD", "NOT", "FOUND");
    private static final Map<String, Method> METHODS = methods(RingPost.class);
    private static final Map<String, Method> MODEL_METHODS = methods(Model.class);
    /** No call answers this, and none may throw. */
    static final long THREW = -987654321987L;

    final String name;
    final String text;
    private final Method method;
    private final Object[] arguments;
    private final Long due;

    private Call(Method method, long[] numbers, Long due) {
        this.method = method;
        this.due = due;
        name = method.getName();
        arguments = new Object[numbers.length];
        StringBuilder told = new StringBuilder();
        for (int i = 0; i < numbers.length; i++) {
            boolean isLong = method.getParameterTypes()[i] == long.class;
            arguments[i] = isLong ? (Object) numbers[i] : (Object) Math.toIntExact(numbers[i]);
            told.append(i == 0 ? "" : ", ").append(numbers[i]);
        }
        text = name + "(" + told + ")";
    }

    private static Map<String, Method> methods(Class<?> of) {
        Map<String, Method> all = new HashMap<>();
        for (Method each : of.getDeclaredMethods()) {
            if (!Modifier.isPrivate(each.getModifiers())) {
                all.put(each.getName(), each);
            }
        }
        return all;
    }

    /** The names of all calls, in an order that is always the same. */
    static List<String> names() {
        return METHODS.keySet().stream().sorted().toList();
    }

    static int parametersOf(String name) {
        return METHODS.get(name).getParameterCount();
    }

    static Call of(String name, long... numbers) {
        return new Call(METHODS.get(name), numbers, null);
    }

    /** The calls of a text, which has blanks or line ends between them. */
    static List<Call> all(String text) {
        List<Call> calls = new ArrayList<>();
        for (String each : text.trim().split("\\s+")) {
            addCalls(calls, each);
        }
        return calls;
    }

    private static void addCalls(List<Call> calls, String told) {
        int open = told.indexOf('(');
        int close = told.indexOf(')');
        Method method = open < 0 ? null : METHODS.get(told.substring(0, open));
        if (method == null || close < open || (close + 1 < told.length() && told.charAt(close + 1) != '=')) {
            throw new IllegalArgumentException("no call: " + told);
        }
        List<long[]> rows = rows(method, told.substring(open + 1, close));
        boolean isLong = method.getReturnType() == long.class;
        List<Long> dues = close + 1 == told.length() ? null : numbers(told.substring(close + 2), isLong);
        if (dues != null && dues.size() != 1 && dues.size() != rows.size()) {
            throw new IllegalArgumentException("not an answer for each: " + told);
        }
        for (int i = 0; i < rows.size(); i++) {
            Long due = dues == null ? null : dues.size() == 1 ? dues.get(0) : dues.get(i);
            calls.add(new Call(method, rows.get(i), due));
        }
    }

    /** The rows of arguments; where several of them are told, the last one changes first. */
    private static List<long[]> rows(Method method, String told) {
        Class<?>[] types = method.getParameterTypes();
        String[] parts = told.isEmpty() ? new String[0] : told.split(",");
        if (parts.length != types.length) {
            throw new IllegalArgumentException(method.getName() + " doesn't take " + told);
        }
        List<long[]> rows = new ArrayList<>();
        rows.add(new long[parts.length]);
        for (int i = 0; i < parts.length; i++) {
            List<long[]> longer = new ArrayList<>();
            for (long[] row : rows) {
                for (long number : numbers(parts[i], types[i] == long.class)) {
                    long[] next = row.clone();
                    next[i] = number;
                    longer.add(next);
                }
            }
            rows = longer;
        }
        return rows;
    }

    private static List<Long> numbers(String told, boolean isLong) {
        List<Long> all = new ArrayList<>();
        for (String part : told.split("\\|")) {
            int row = part.indexOf("..");
            int times = part.indexOf('*');
            if (row >= 0) {
                long last = number(part.substring(row + 2), isLong);
                for (long each = number(part.substring(0, row), isLong); each <= last; each++) {
                    all.add(each);
                }
            } else if (times >= 0) {
                for (int i = Integer.parseInt(part.substring(times + 1)); i > 0; i--) {
                    all.add(number(part.substring(0, times), isLong));
                }
            } else {
                all.add(number(part, isLong));
            }
        }
        return all;
    }

    private static long number(String told, boolean isLong) {
        if (told.equals("MIN")) {
            return isLong ? Long.MIN_VALUE : Integer.MIN_VALUE;
        }
        if (told.equals("MAX")) {
            return isLong ? Long.MAX_VALUE : Integer.MAX_VALUE;
        }
        int refusal = REFUSALS.indexOf(told);
        return refusal >= 0 ? -1 - refusal : Long.parseLong(told);
    }

    /** The first argument; 0 if there is none. */
    int first() {
        return arguments.length > 0 && arguments[0] instanceof Integer number ? number : 0;
    }

    /** What the program answers; true and false count 1 and 0, and to throw is THREW. */
    long answerOf(RingPost post) {
        return answer(method, post);
    }

    long answerOf(Model model) {
        return answer(MODEL_METHODS.get(name), model);
    }

    private long answer(Method called, Object object) {
        try {
            Object answer = called.invoke(object, arguments);
            return answer instanceof Boolean yes ? (yes ? 1 : 0) : ((Number) answer).longValue();
        } catch (InvocationTargetException thrown) {
            System.out.println(text + " threw " + thrown.getCause());
            return THREW;
        } catch (IllegalAccessException closed) {
            throw new IllegalStateException(closed);
        }
    }

    boolean isDue(long answer) {
        return due == null ? answer >= 0 : answer == due;
    }

    String dueAsText() {
        return due == null ? "no refusal" : String.valueOf(due);
    }

    /** Whether the call is one that may be refused, and not one that only tells something. */
    boolean mayBeRefused() {
        return !tellsOfRefusals()
            && !List.of("made", "last", "got", "word", "place", "on", "stuck").contains(name);
    }

    /** Whether it tells what a refused call may change. */
    boolean tellsOfRefusals() {
        return List.of("found", "again", "by", "circle").contains(name);
    }
}
