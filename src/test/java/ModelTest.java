import java.util.Random;

/** Runs of up to 512 calls on a RingPost and on the Model: each answer of the one is due by the other. */
public final class ModelTest {
    private static final int RUNS = 12000;
    /** An object is used for no more; what later calls answer is free. */
    private static final int CALLS = 512;
    private static final int CALLS_OF_A_TURN = 20;
    private static final int[] WILD = {Integer.MIN_VALUE, -2, -1, 0, 7, 8, 9, 15, 16, 31, 32, 63, 64, 65,
        Integer.MAX_VALUE};
    private static final Checks CHECKS = new Checks();

    private final Random random;
    private final RingPost post = new RingPost();
    private final Model model = new Model();
    private final int wildness;
    private final int favourite;
    private final int favour;
    private long clock;
    private int calls;

    private ModelTest(long seed) {
        random = new Random(seed);
        wildness = (int) (seed % 3);
        // Names and joins come to their edges only where most readers are of one kind.
        favourite = 1 + random.nextInt(7);
        favour = random.nextInt(3) * 40;
        clock = random.nextInt(20) - 10;
    }

    public static void main(String[] args) {
        for (int seed = 0; seed < RUNS && CHECKS.wrong() == 0; seed++) {
            CHECKS.part("seed " + seed);
            new ModelTest(seed).run();
        }
        CHECKS.end();
    }

    private void run() {
        int rings = 1 + random.nextInt(random.nextInt(4) == 0 ? 9 : 4);
        int ahead = rings + 4 + random.nextInt(random.nextInt(4) == 0 ? 120 : 15);
        for (int i = 0; calls <= CALLS - CALLS_OF_A_TURN && CHECKS.wrong() == 0; i++) {
            if (i < rings) {
                makeRing();
            } else if (i < ahead) {
                callAhead();
            } else if (i == ahead) {
                due("begin()", post.begin(), model.begin());
            } else {
                callLater();
            }
        }
    }

    private void due(String call, long answer, long want) {
        calls++;
        CHECKS.due(call, answer, want);
    }

    private boolean isWild() {
        return wildness > 0 && random.nextInt(wildness == 1 ? 60 : 12) == 0;
    }

    private int upTo(int most) {
        return isWild() ? WILD[random.nextInt(WILD.length)] : random.nextInt(most + 1);
    }

    private int someRing() {
        return upTo(Math.max(0, model.ringCount() - 1));
    }

    private int someReader() {
        return upTo(Math.max(0, model.readerCount() - 1));
    }

    /** Most often one that is open, and then most often the oldest such one. */
    private int someClaim(int ring) {
        if (isWild()) {
            return WILD[random.nextInt(WILD.length)];
        }
        int open = model.oldestOpen(ring);
        int turn = random.nextInt(10);
        return turn == 0 ? open - 1 - random.nextInt(9) : turn < 4 ? open + random.nextInt(4) : open;
    }

    private long someStamp() {
        clock += random.nextInt(3);
        int turn = random.nextInt(100);
        if (turn == 0 && wildness > 0) {
            return random.nextBoolean() ? Long.MIN_VALUE : random.nextLong();
        }
        return turn < 8 ? clock - random.nextInt(6) : clock;
    }

    private void makeRing() {
        int slots = isWild() ? WILD[random.nextInt(WILD.length)] : 1 << random.nextInt(random.nextInt(5) == 0 ? 7 : 4);
        due("ring(" + slots + ")", post.ring(slots), model.ring(slots));
    }

    private void callAhead() {
        switch (random.nextInt(12)) {
            case 0, 1, 2, 3 -> makeReader();
            case 4, 5 -> joinRing();
            case 6, 7, 8, 9 -> nameReader();
            case 10 -> observe();
            default -> callOfAnyTime();
        }
    }

    private void makeReader() {
        int kind = random.nextInt(100) < favour ? favourite : 1 + random.nextInt(7);
        kind = isWild() ? upTo(9) : kind;
        int ring = random.nextInt(3) == 0 ? someRing() : 0;
        int other = kind == 6 ? someReader() : someRing();
        due("reader(" + kind + ", " + ring + ", " + other + ")", post.reader(kind, ring, other),
            model.reader(kind, ring, other));
    }

    private void joinRing() {
        int reader = someReader();
        int ring = someRing();
        due("join(" + reader + ", " + ring + ")", post.join(reader, ring), model.join(reader, ring));
    }

    private void nameReader() {
        int reader = someReader();
        int other = someReader();
        int answer = post.name(reader, other);
        due("name(" + reader + ", " + other + ")", answer, model.name(reader, other));
        boolean isCircle = answer == RingPost.CIRCLE && random.nextBoolean();
        int first = isCircle ? -1 : random.nextInt(4);
        int last = isCircle ? 16 : first;
        for (int i = first; i <= last; i++) {
            due("circle(" + i + ")", post.circle(i), model.circle(i));
        }
    }

    private void callLater() {
        int turn = random.nextInt(100);
        if (turn < 22) {
            claimSome();
        } else if (turn < 47) {
            publishOne();
        } else if (turn < 70) {
            readOne();
        } else if (turn < 76) {
            fillOrCopy();
        } else if (turn < 98) {
            observe();
        } else {
            callOfAnyTime();
        }
    }

    private void claimSome() {
        int ring = someRing();
        long stamp = someStamp();
        if (random.nextInt(4) > 0) {
            due("claim(" + ring + ", " + stamp + ")", post.claim(ring, stamp), model.claim(ring, stamp));
        } else {
            int n = upTo(random.nextInt(4) == 0 ? 9 : 3);
            due("batch(" + ring + ", " + stamp + ", " + n + ")", post.batch(ring, stamp, n),
                model.batch(ring, stamp, n));
        }
        due("by()", post.by(), model.by());
        if (random.nextInt(8) == 0) {
            due("again()", post.again(), model.again());
        }
    }

    private void publishOne() {
        int ring = someRing();
        int q = someClaim(ring);
        int key = isWild() ? upTo(31) : random.nextInt(random.nextInt(3) == 0 ? 32 : 4);
        int length = upTo(8);
        due("publish(" + ring + ", " + q + ", " + key + ", " + length + ")", post.publish(ring, q, key, length),
            model.publish(ring, q, key, length));
    }

    private void readOne() {
        if (random.nextInt(6) == 0) {
            due("round()", post.round(), model.round());
            return;
        }
        int reader = someReader();
        due("why(" + reader + ")", post.why(reader), model.why(reader));
        due("on(" + reader + ")", post.on(reader), model.on(reader));
        due("read(" + reader + ")", post.read(reader), model.read(reader));
        int what = random.nextInt(5);
        due("got(" + reader + ", " + what + ")", post.got(reader, what), model.got(reader, what));
    }

    private void fillOrCopy() {
        int ring = someRing();
        int q = someClaim(ring);
        if (random.nextBoolean()) {
            int i = upTo(7);
            long v = random.nextLong();
            due("fill(" + ring + ", " + q + ", " + i + ")", post.fill(ring, q, i, v), model.fill(ring, q, i, v));
        } else {
            int reader = someReader();
            int from = upTo(8);
            int n = upTo(8);
            due("copy(" + ring + ", " + q + ", " + reader + ", " + from + ", " + n + ")",
                post.copy(ring, q, reader, from, n), model.copy(ring, q, reader, from, n));
        }
    }

    /** Calls that are seldom, or mostly refused. */
    private void callOfAnyTime() {
        int ring = someRing();
        switch (random.nextInt(8)) {
            case 0 -> due("close(" + ring + ")", post.close(ring), model.close(ring));
            case 1, 2 -> due("give(" + ring + ")", post.give(ring), model.give(ring));
            case 3 -> due("again()", post.again(), model.again());
            case 4 -> makeRing();
            case 5 -> makeReader();
            case 6 -> nameReader();
            default -> joinRing();
        }
    }

    private void observe() {
        int ring = someRing();
        int reader = someReader();
        int i = upTo(8);
        switch (random.nextInt(12)) {
            case 0 -> due("made()", post.made(), model.made());
            case 1, 2 -> due("told(" + ring + ", " + i + ")", post.told(ring, i), model.told(ring, i));
            case 3 -> due("last(" + ring + ")", post.last(ring), model.last(ring));
            case 4 -> due("word(" + reader + ", " + i + ")", post.word(reader, i), model.word(reader, i));
            case 5 -> due("of(" + reader + ", " + i + ")", post.of(reader, i), model.of(reader, i));
            case 6 -> due("place(" + reader + ", " + ring + ")", post.place(reader, ring), model.place(reader, ring));
            case 7 -> due("named(" + reader + ", " + i + ")", post.named(reader, i), model.named(reader, i));
            case 8 -> due("entry(" + reader + ", " + i + ")", post.entry(reader, i), model.entry(reader, i));
            case 9 -> due("target(" + reader + ")", post.target(reader), model.target(reader));
            case 10 -> due("stuck()", post.stuck() ? 1 : 0, model.stuck() ? 1 : 0);
            default -> due("found(" + i + ")", post.found(i), model.found(i));
        }
    }
}
