import java.util.ArrayList;
import java.util.List;
import java.util.Random;

/**
 * Terms 4, "A call that is refused (answers below 0) changes nothing but what found(), again(), by() and circle() tell
 * (and reading of MISSES, as told).": runs of calls, many of them refused, drawn with fixed seeds; at the end of each
 * run everything is asked that a post tells.
 */
public final class RefusedTest {
    private static final int RUNS = 4000;
    private static final int AHEAD = 40;
    private static final int LATER = 240;
    private static final int RINGS = 3;
    private static final int READERS = 6;
    private static final Checks CHECKS = new Checks();

    private final Random random;
    private final RingPost post = new RingPost();
    private final List<Call> calls = new ArrayList<>();
    private final List<Long> answers = new ArrayList<>();
    private final int[] newest = new int[RINGS + 1];
    private long clock;

    private RefusedTest(long seed) {
        random = new Random(seed);
    }

    public static void main(String[] args) {
        int refused = 0;
        for (int seed = 0; seed < RUNS && CHECKS.wrong() == 0; seed++) {
            CHECKS.part("seed " + seed);
            refused += new RefusedTest(seed).run();
        }
        CHECKS.due("there were refused calls of that many runs", refused > RUNS, true);
        CHECKS.end();
    }

    /** How many calls were refused. */
    private int run() {
        call("ring", 1 << random.nextInt(3));
        call("ring", 2);
        for (int i = 0; i < AHEAD; i++) {
            callAhead();
        }
        call("begin");
        for (int i = 0; i < LATER; i++) {
            callLater();
        }
        askAll();
        Refused.changesNothing(CHECKS, calls, answers.stream().mapToLong(Long::longValue).toArray());
        int refused = 0;
        for (int i = 0; i < answers.size(); i++) {
            refused += answers.get(i) < 0 && calls.get(i).mayBeRefused() ? 1 : 0;
        }
        return refused;
    }

    private void call(String name, long... numbers) {
        Call call = Call.of(name, numbers);
        calls.add(call);
        answers.add(call.answerOf(post));
        long answer = answers.get(answers.size() - 1);
        if (answer >= 0 && name.equals("claim")) {
            newest[call.first()] = (int) answer;
        }
    }

    private int from(int least, int most) {
        return least + random.nextInt(most - least + 1);
    }

    private int ring() {
        return random.nextInt(12) == 0 ? from(-1, RINGS) : random.nextInt(2);
    }

    private int reader() {
        return random.nextInt(12) == 0 ? from(-1, READERS) : random.nextInt(READERS);
    }

    /** One of the newest claims, or one beyond them. */
    private int claim(int ring) {
        return ring < 0 ? 0 : newest[ring] - from(-1, 3);
    }

    private void callAhead() {
        switch (random.nextInt(9)) {
            case 0 -> call("ring", from(-1, 5));
            case 1, 2, 3 -> call("reader", from(0, 8), ring(), random.nextInt(3));
            case 4 -> call("join", reader(), ring());
            case 5, 6 -> call("name", reader(), reader());
            case 7 -> call("claim", ring(), 0);
            default -> callRefusedOrNot();
        }
    }

    private void callLater() {
        int ring = ring();
        clock += random.nextInt(2);
        switch (random.nextInt(16)) {
            case 0, 1, 2 -> call("claim", ring, clock - random.nextInt(2));
            case 3 -> call("batch", ring, clock - random.nextInt(2), from(0, 4));
            case 4, 5, 6, 7 -> call("publish", ring, claim(ring), from(-1, 3) & 31, from(0, 9));
            case 8 -> call("fill", ring, claim(ring), from(-1, 8), random.nextInt());
            case 9 -> call("copy", ring, claim(ring), reader(), from(-1, 5), from(-1, 5));
            case 10, 11, 12 -> call("read", reader());
            case 13 -> call("round");
            case 14 -> callRefusedOrNot();
            default -> callSeldom(ring);
        }
    }

    private void callSeldom(int ring) {
        switch (random.nextInt(8)) {
            case 0 -> call("close", random.nextInt(6) == 0 ? ring : -1);
            case 1, 2 -> call("give", ring);
            case 3 -> call("ring", from(-1, 2));
            case 4 -> call("reader", from(0, 8), ring, random.nextInt(3));
            case 5 -> call("join", reader(), ring);
            case 6 -> call("name", reader(), reader());
            default -> call("begin");
        }
    }

    private void callRefusedOrNot() {
        switch (random.nextInt(7)) {
            case 0 -> call("told", ring(), from(-1, 7));
            case 1 -> call("of", reader(), from(-1, 9));
            case 2 -> call("named", reader(), from(-1, 4));
            case 3 -> call("entry", reader(), from(-1, 4));
            case 4 -> call("target", reader());
            case 5 -> call("why", reader());
            default -> call("again");
        }
    }

    private void askAll() {
        call("made");
        call("stuck");
        for (int ring = 0; ring < RINGS; ring++) {
            call("last", ring);
            for (int what = 0; what <= 6; what++) {
                call("told", ring, what);
            }
        }
        for (int reader = 0; reader < READERS; reader++) {
            call("on", reader);
            call("why", reader);
            for (int i = 0; i <= 8; i++) {
                call("of", reader, i);
                call("word", reader, i);
                if (i < RINGS) {
                    call("got", reader, i + 1);
                    call("place", reader, i);
                    call("entry", reader, i);
                }
            }
        }
    }
}
