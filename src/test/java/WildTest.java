import java.util.List;
import java.util.Random;

/**
 * Rule 7 of ../shared/LANGUAGE.md, "No call may ever throw or fail to end, for any arguments in any state": calls with
 * all kinds of numbers, drawn with fixed seeds, and far beyond the 512th one, whose answer is free.
 */
public final class WildTest {
    private static final int POSTS = 80;
    private static final int CALLS = 10000;
    private static final int[] EDGES = {Integer.MIN_VALUE, Integer.MIN_VALUE + 1, -65, -64, -8, -1, 7, 8, 9, 15, 16, 31,
        32, 63, 64, 65, 128, 256, 1 << 30, Integer.MAX_VALUE - 1, Integer.MAX_VALUE};
    private static final List<String> NAMES = Call.names();
    private static final Checks CHECKS = new Checks();
    private static int mostClaims;

    private final Random random;
    private final RingPost post = new RingPost();
    private final boolean keepsRings;
    private final int rings;

    private WildTest(long seed) {
        // Seeds that lie close together draw nearly the same numbers at first.
        random = new Random(1_000_003L * seed);
        rings = 1 + random.nextInt(8);
        keepsRings = seed % 4 != 0;
    }

    public static void main(String[] args) {
        for (int seed = 0; seed < POSTS && CHECKS.wrong() == 0; seed++) {
            CHECKS.part("seed " + seed);
            new WildTest(seed).run();
        }
        CHECKS.part("rings were gone round many times");
        CHECKS.due("most claims of a ring: " + mostClaims, mostClaims > 512, true);
        CHECKS.end();
    }

    private void run() {
        makeRingsAndReaders();
        for (int i = 0; i < CALLS / 10; i++) {
            callAny();
        }
        post.begin();
        for (int i = 0; i < CALLS; i++) {
            callAny();
            goOn(random.nextInt(rings));
        }
        for (int i = 0; i < rings; i++) {
            mostClaims = Math.max(mostClaims, post.told(i, 1));
        }
    }

    private void makeRingsAndReaders() {
        for (int i = 0; i < rings; i++) {
            answers(Call.of("ring", 1 << random.nextInt(7)));
        }
        for (int i = random.nextInt(16); i > 0; i--) {
            answers(Call.of("reader", 1 + random.nextInt(7), random.nextInt(rings), random.nextInt(8)));
        }
    }

    /** Any call but for begin(), which comes in its time, and in most posts those that end a ring. */
    private void callAny() {
        String name = NAMES.get(random.nextInt(NAMES.size()));
        boolean endsRings = name.equals("close") || name.equals("give");
        if (name.equals("begin") || (endsRings && keepsRings)) {
            return;
        }
        long[] numbers = new long[Call.parametersOf(name)];
        for (int i = 0; i < numbers.length; i++) {
            numbers[i] = number();
        }
        answers(Call.of(name, numbers));
    }

    private void answers(Call call) {
        long answer = call.answerOf(post);
        CHECKS.due(call.text, answer, answer != Call.THREW, "an answer");
    }

    private int number() {
        return switch (random.nextInt(8)) {
            case 0 -> random.nextInt();
            case 1 -> EDGES[random.nextInt(EDGES.length)];
            case 2 -> random.nextInt(17);
            default -> random.nextInt(4);
        };
    }

    /** Claims are made, published in any order and read. */
    private void goOn(int ring) {
        answers(Call.of("claim", ring, post.last(ring)));
        int oldest = Math.max(0, post.told(ring, 1) - post.told(ring, 0));
        answers(Call.of("publish", ring, oldest, random.nextInt(32), random.nextInt(9)));
        answers(Call.of("publish", ring, oldest + random.nextInt(64), random.nextInt(32), random.nextInt(9)));
        answers(Call.of("round"));
    }
}
