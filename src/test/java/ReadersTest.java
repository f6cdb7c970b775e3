/** Promises 20 to 32: the calls of readers. */
public final class ReadersTest {
    private static final Checks CHECKS = new Checks();
    private static final int LEAST = Integer.MIN_VALUE;
    private static final int MOST = Integer.MAX_VALUE;
    private static final int[] NO_READER = {LEAST, -1, 7, 16, MOST};

    public static void main(String[] args) {
        readRefusals();
        readingSees();
        readingWaits();
        readingMisses();
        missesOfGivenRing();
        readingGate();
        readingEcho();
        echoShut();
        readingMerge();
        mergePassesOver();
        readingFolds();
        foldsOfLostClaims();
        rounds();
        whatWasGot();
        wordsGot();
        tellingOfReaders();
        placesTold();
        namesTold();
        entriesTold();
        targetsTold();
        whyOfSimpleReaders();
        whyOfGateAndEcho();
        whyOfMerge();
        onWithoutAReason();
        stuckPosts();
        stuckNeedsEachLiveRing();
        findingsCounted();
        CHECKS.end();
    }

    private static void due(String call, long answer, long want) {
        CHECKS.due(call, answer, want);
    }

    /** Two rings of so many slots; readers 0 .. 6 are of kinds 1 .. 7 in ring 0, other is ring 1, the gate names 1. */
    private static RingPost allKinds(int slots) {
        RingPost x = new RingPost();
        x.ring(slots);
        x.ring(slots);
        for (int kind = 1; kind <= 7; kind++) {
            x.reader(kind, 0, 1);
        }
        x.begin();
        return x;
    }

    private static RingPost oneReader(int slots, int kind) {
        RingPost x = new RingPost();
        x.ring(slots);
        x.reader(kind, 0, 0);
        x.begin();
        return x;
    }

    private static int post(RingPost x, int ring, long stamp, int key) {
        int q = x.claim(ring, stamp);
        x.fill(ring, q, 0, 1000 * ring + q);
        return x.publish(ring, q, key, 1) == 1 ? q : -99;
    }

    private static void readRefusals() {
        CHECKS.part("promise 20");
        RingPost early = new RingPost();
        early.ring(1);
        early.reader(2, 0, 0);
        due("too early", early.read(0), RingPost.STATE);
        due("state ahead of beyond", early.read(1), RingPost.STATE);
        due("no finding", early.found(0), 0);
        RingPost x = allKinds(2);
        for (int reader : NO_READER) {
            due("reader " + reader, x.read(reader), RingPost.FOUND);
            due("is beyond", x.found(0), 2);
        }
        x.give(0);
        for (int reader = 0; reader < 7; reader++) {
            boolean passes = reader == 3 || reader == 4;
            int before = x.found(1);
            due("given, reader " + reader, x.read(reader), passes ? 0 : RingPost.FOUND);
            due("missing, reader " + reader, x.found(1) - before, passes ? 0 : 1);
        }
    }

    private static void readingSees() {
        CHECKS.part("promise 20, SEES");
        RingPost x = oneReader(4, 1);
        due("nothing", x.read(0), 0);
        x.batch(0, 0, 3);
        due("all open", x.read(0), 0);
        x.publish(0, 1, 0, 0);
        due("the middle one", x.read(0), 1);
        due("its number", x.got(0, 1), 1);
        x.publish(0, 0, 0, 0);
        due("an older one is nothing", x.read(0), 0);
        x.publish(0, 2, 0, 0);
        due("a newer one", x.read(0), 1);
        due("number 2", x.got(0, 1), 2);
        due("once", x.read(0), 0);
        x.batch(0, 0, 3);
        x.publish(0, 4, 0, 0);
        x.publish(0, 3, 0, 0);
        due("the greatest", x.read(0), 1);
        due("number 4", x.got(0, 1), 4);
        due("got in all", x.of(0, 8), 3);
    }

    private static void readingWaits() {
        CHECKS.part("promise 20, WAITS");
        RingPost x = oneReader(4, 2);
        due("nothing", x.read(0), 0);
        x.batch(0, 0, 2);
        x.publish(0, 1, 0, 0);
        due("the first is open", x.read(0), 0);
        due("place stays", x.place(0, 0), 0);
        x.publish(0, 0, 0, 0);
        due("first", x.read(0), 1);
        due("number 0", x.got(0, 1), 0);
        due("second", x.read(0), 1);
        due("number 1", x.got(0, 1), 1);
        due("place 2", x.place(0, 0), 2);
        due("no more", x.read(0), 0);
        due("what it got stays", x.got(0, 1), 1);
        for (int q = 2; q < 30; q++) {
            due("post " + q, post(x, 0, q, 0), q);
            due("read " + q, x.read(0), 1);
            due("word " + q, x.word(0, 0), q);
        }
    }

    private static void readingMisses() {
        CHECKS.part("promise 20, MISSES");
        RingPost x = oneReader(2, 3);
        post(x, 0, 0, 0);
        post(x, 0, 0, 0);
        due("nothing missed", x.read(0), 1);
        due("number 0", x.got(0, 1), 0);
        due("no span", x.of(0, 4), -1);
        due("no span's end", x.of(0, 5), -1);
        for (int i = 0; i < 4; i++) {
            post(x, 0, 0, 0);
        }
        due("missed is told by reading", x.of(0, 3), 0);
        due("read", x.read(0), 1);
        due("number 4", x.got(0, 1), 4);
        due("missed 1 .. 3", x.of(0, 3), 3);
        due("first", x.of(0, 4), 1);
        due("last", x.of(0, 5), 3);
        x.batch(0, 0, 2);
        due("5 is missed, 6 is open", x.read(0), 0);
        due("missed so far", x.of(0, 3), 4);
        due("span first", x.of(0, 4), 5);
        due("span last", x.of(0, 5), 5);
        due("place moved", x.of(0, 2), 6);
        x.publish(0, 6, 0, 0);
        due("6", x.read(0), 1);
        due("no more missed", x.of(0, 3), 4);
        due("the span stays", x.of(0, 5), 5);
    }

    private static void missesOfGivenRing() {
        CHECKS.part("promise 20, MISSES of a ring that is GIVEN");
        RingPost x = oneReader(4, 3);
        for (int i = 0; i < 6; i++) {
            post(x, 0, 0, 0);
        }
        x.give(0);
        due("why", x.why(0), 1);
        due("why changes nothing", x.of(0, 3), 0);
        due("read", x.read(0), RingPost.FOUND);
        due("all missed", x.of(0, 3), 6);
        due("first", x.of(0, 4), 0);
        due("last", x.of(0, 5), 5);
        due("place", x.place(0, 0), 6);
        due("read again", x.read(0), RingPost.FOUND);
        due("no more missed", x.of(0, 3), 6);
        due("span stays", x.of(0, 5), 5);
        due("missing twice", x.found(1), 2);
        RingPost none = oneReader(4, 3);
        none.give(0);
        none.read(0);
        due("without claims no span", none.of(0, 4), -1);
        due("without claims none missed", none.of(0, 3), 0);
    }

    private static void readingGate() {
        CHECKS.part("promise 20, GATE");
        RingPost x = new RingPost();
        x.ring(4);
        x.ring(4);
        x.reader(2, 0, 0);
        x.reader(3, 0, 0);
        x.reader(5, 1, 0);
        x.reader(6, 0, 0);
        x.name(3, 1);
        x.name(3, 2);
        x.begin();
        post(x, 0, 5, 9);
        due("nobody read", x.read(3), 0);
        x.read(0);
        due("the misses didn't", x.read(3), 0);
        x.read(1);
        due("the merge didn't", x.read(3), 0);
        x.close(1);
        due("the merge reads", x.read(2), 1);
        due("the gate reads", x.read(3), 1);
        due("key", x.got(3, 3), 9);
        due("place", x.place(3, 0), 1);
        due("once", x.read(3), 0);
        post(x, 0, 5, 9);
        x.read(0);
        x.read(2);
        due("waits for the misses again", x.read(3), 0);
    }

    private static void readingEcho() {
        CHECKS.part("promise 20, ECHO");
        RingPost x = new RingPost();
        x.ring(8);
        x.ring(8);
        x.reader(7, 0, 1);
        x.reader(2, 1, 0);
        x.reader(4, 1, 0);
        x.reader(2, 0, 0);
        x.name(0, 3);
        x.begin();
        x.claim(0, -5);
        for (int i = 0; i < 8; i++) {
            x.fill(0, 0, i, 50 + i);
        }
        x.publish(0, 0, 17, 6);
        due("it names one that didn't read", x.read(0), 0);
        due("nothing written on", x.told(1, 1), 0);
        x.read(3);
        due("echo", x.read(0), 1);
        due("one claim there", x.told(1, 1), 1);
        due("none open", x.told(1, 2), 0);
        due("a first stamp below 0 stays", x.last(1), -5);
        due("folded there", x.entry(2, 0), 17);
        due("read there", x.read(1), 1);
        long[] want = {1, 0, -5, 17, 6};
        for (int what = 0; what < 5; what++) {
            due("got " + what, x.got(1, what), want[what]);
        }
        for (int i = 0; i < 8; i++) {
            due("word " + i, x.word(1, i), 50 + i);
        }
        post(x, 1, 20, 0);
        post(x, 0, 3, 1);
        x.read(3);
        due("echo behind a later stamp", x.read(0), 1);
        due("got its own stamp", x.got(0, 2), 3);
        due("of its own ring", x.got(0, 0), 0);
        due("the last stamp there", x.last(1), 20);
        x.read(1);
        x.read(1);
        due("claim 2 there", x.got(1, 1), 2);
        due("with the last stamp", x.got(1, 2), 20);
        due("its word", x.word(1, 0), 1);
        post(x, 0, 21, 1);
        x.read(3);
        x.read(0);
        due("a higher stamp goes on", x.last(1), 21);
        RingPost second = new RingPost();
        second.ring(2);
        second.ring(2);
        second.reader(7, 0, 1);
        second.begin();
        post(second, 1, 9, 0);
        post(second, 0, 8, 0);
        due("behind a single claim", second.read(0), 1);
        due("none is below last", second.last(1), 9);
    }

    private static void echoShut() {
        CHECKS.part("promise 20, ECHO");
        RingPost x = new RingPost();
        x.ring(4);
        x.ring(1);
        x.reader(7, 0, 1);
        x.reader(2, 1, 0);
        x.begin();
        post(x, 0, 0, 0);
        post(x, 0, 0, 0);
        post(x, 0, 0, 0);
        due("echo", x.read(0), 1);
        due("held up there", x.read(0), 0);
        due("place stays", x.place(0, 0), 1);
        x.read(1);
        due("free", x.read(0), 1);
        x.read(1);
        x.close(1);
        due("closed", x.read(0), 0);
        x.give(1);
        due("given", x.read(0), 0);
        due("that is no finding", x.found(0), 0);
        due("two were echoed", x.told(1, 1), 2);
        due("by is of claim and batch", x.by(), -1);
        due("again is, too", x.again(), RingPost.FOUND);
    }

    private static RingPost mergeOf(int rings) {
        RingPost x = new RingPost();
        for (int i = 0; i < rings; i++) {
            x.ring(4);
        }
        x.reader(5, rings - 1, 0);
        for (int i = 1; i < rings - 1; i++) {
            x.join(0, i);
        }
        x.begin();
        return x;
    }

    private static void readingMerge() {
        CHECKS.part("promise 20, MERGE");
        RingPost x = mergeOf(3);
        post(x, 0, 7, 0);
        post(x, 1, 5, 1);
        due("the third lacks", x.read(0), 0);
        post(x, 2, 5, 2);
        due("of equals the least ring", x.read(0), 1);
        due("ring 1", x.got(0, 0), 1);
        due("now that one lacks", x.read(0), 0);
        x.claim(1, 7);
        due("its claim is open", x.read(0), 0);
        x.publish(1, 1, 0, 0);
        due("the least stamp", x.read(0), 1);
        due("ring 2", x.got(0, 0), 2);
        due("stamp", x.got(0, 2), 5);
        due("word", x.word(0, 0), 2000);
        post(x, 2, Long.MAX_VALUE, 0);
        due("equals again", x.read(0), 1);
        due("ring 0", x.got(0, 0), 0);
        due("place in 0", x.place(0, 0), 1);
        due("place in 1", x.place(0, 1), 1);
        due("place in 2", x.place(0, 2), 1);
        due("got", x.of(0, 8), 3);
        RingPost wide = mergeOf(2);
        post(wide, 0, Long.MAX_VALUE, 0);
        post(wide, 1, Long.MIN_VALUE, 0);
        wide.read(0);
        due("stamps don't wrap round", wide.got(0, 2), Long.MIN_VALUE);
    }

    private static void mergePassesOver() {
        CHECKS.part("promise 20, MERGE");
        RingPost x = mergeOf(4);
        post(x, 0, 1, 0);
        post(x, 1, 2, 0);
        x.give(2);
        x.close(3);
        due("given and closed ones are passed over", x.read(0), 1);
        due("ring 0", x.got(0, 0), 0);
        x.close(1);
        due("a closed one with a claim isn't", x.read(0), 0);
        x.close(0);
        due("now it goes", x.read(0), 1);
        due("ring 1", x.got(0, 0), 1);
        due("all passed over", x.read(0), 0);
        RingPost open = mergeOf(2);
        open.claim(0, 0);
        open.close(0);
        post(open, 1, 5, 0);
        due("a closed one with an open claim is waited for", open.read(0), 0);
        open.publish(0, 0, 0, 0);
        due("published", open.read(0), 1);
        due("from 0", open.got(0, 0), 0);
    }

    private static void readingFolds() {
        CHECKS.part("promise 20, FOLDS");
        RingPost x = oneReader(8, 4);
        due("nothing", x.read(0), 0);
        x.batch(0, 4, 6);
        x.publish(0, 2, 5, 2);
        x.publish(0, 0, 9, 0);
        x.publish(0, 1, 5, 1);
        due("two entries", x.of(0, 6), 2);
        x.publish(0, 4, 9, 4);
        x.publish(0, 3, 9, 3);
        x.publish(0, 5, 1, 5);
        int[] keys = {5, 9, 1, -1};
        for (int i = 0; i < keys.length; i++) {
            due("entry " + i, x.entry(0, i), keys[i]);
        }
        int[] numbers = {2, 4, 5};
        for (int i = 0; i < 3; i++) {
            due("read " + i, x.read(0), 1);
            due("number " + i, x.got(0, 1), numbers[i]);
            due("key " + i, x.got(0, 3), keys[i]);
            due("length " + i, x.got(0, 4), numbers[i]);
            due("entries left " + i, x.of(0, 6), 2 - i);
        }
        due("no more", x.read(0), 0);
        x.batch(0, 4, 2);
        x.publish(0, 7, 5, 0);
        x.read(0);
        x.publish(0, 6, 5, 0);
        due("its entry is gone: an older claim makes one", x.read(0), 1);
        due("number 6", x.got(0, 1), 6);
        for (int key = 10; key < 13; key++) {
            post(x, 0, 4, key);
        }
        x.read(0);
        post(x, 0, 4, 13);
        for (int key = 11; key < 14; key++) {
            due("each entry has a row of its own", x.read(0), 1);
            due("key " + key, x.got(0, 3), key);
            due("its word", x.word(0, 0), key - 2);
        }
    }

    private static void foldsOfLostClaims() {
        CHECKS.part("promise 20, FOLDS");
        RingPost x = oneReader(1, 4);
        for (int key = 31; key >= 0; key--) {
            post(x, 0, key == 31 ? -31 : -key, key);
        }
        due("32 entries", x.of(0, 6), 32);
        post(x, 0, 40, 30);
        due("still 32", x.of(0, 6), 32);
        due("in its place", x.entry(0, 1), 30);
        x.give(0);
        for (int i = 0; i < 32; i++) {
            int number = i == 1 ? 32 : i;
            due("read " + i, x.read(0), 1);
            due("key " + i, x.got(0, 3), 31 - i);
            due("number " + i, x.got(0, 1), number);
            due("word " + i, x.word(0, 0), number);
            due("stamp " + i, x.got(0, 2), i == 1 ? 40 : i - 31);
        }
        due("the end", x.read(0), 0);
    }

    private static void rounds() {
        CHECKS.part("promise 21");
        RingPost early = new RingPost();
        due("too early", early.round(), RingPost.STATE);
        RingPost x = new RingPost();
        x.ring(4);
        x.ring(4);
        x.reader(2, 1, 0);
        x.reader(2, 0, 0);
        x.reader(6, 0, 1);
        x.reader(7, 0, 1);
        x.reader(1, 1, 0);
        x.reader(4, 1, 0);
        x.begin();
        due("nothing", x.round(), 0);
        post(x, 0, 1, 1);
        due("in order: all but the first", x.round(), 5);
        due("the sees behind the echo", x.got(4, 0), 1);
        due("the first one", x.round(), 1);
        due("no more", x.round(), 0);
        x.give(0);
        due("refused ones don't count", x.round(), 0);
        due("but are found", x.found(1), 3);
        due("the latest", x.found(0), 1);
        RingPost misses = oneReader(1, 3);
        post(misses, 0, 0, 0);
        misses.give(0);
        due("a misses of a given ring", misses.round(), 0);
        due("misses all the same", misses.of(0, 3), 1);
    }

    private static void whatWasGot() {
        CHECKS.part("promise 22");
        RingPost x = allKinds(4);
        for (int what = -1; what <= 5; what++) {
            due("nothing yet, " + what, x.got(1, what), -1);
        }
        post(x, 0, 11, 12);
        post(x, 0, 13, 14);
        x.read(1);
        x.read(1);
        long[] want = {0, 1, 13, 14, 1};
        for (int what = 0; what < 5; what++) {
            due("got " + what, x.got(1, what), want[what]);
        }
        for (int what : new int[] {LEAST, -1, 5, MOST}) {
            due("what " + what, x.got(1, what), -1);
        }
        for (int reader : NO_READER) {
            due("reader " + reader, x.got(reader, 0), -1);
        }
        due("no finding", x.found(0), 0);
    }

    private static void wordsGot() {
        CHECKS.part("promise 23");
        RingPost x = allKinds(4);
        x.claim(0, 0);
        for (int i = 0; i < 8; i++) {
            due("nothing yet, " + i, x.word(1, i), 0);
            x.fill(0, 0, i, -1 - i);
        }
        x.publish(0, 0, 0, 0);
        x.read(1);
        for (int i = 0; i < 8; i++) {
            due("word " + i + ", also beyond the length", x.word(1, i), -1 - i);
        }
        for (int i : new int[] {LEAST, -1, 8, MOST}) {
            due("word " + i, x.word(1, i), 0);
        }
        for (int reader : NO_READER) {
            due("reader " + reader, x.word(reader, 0), 0);
        }
        due("no finding", x.found(0), 0);
    }

    private static void tellingOfReaders() {
        CHECKS.part("promise 24");
        RingPost x = allKinds(2);
        for (int what : new int[] {LEAST, -1, 9, MOST}) {
            due("what " + what, x.of(0, what), RingPost.NUMBER);
            due("number ahead of beyond, " + what, x.of(7, what), RingPost.NUMBER);
        }
        due("no finding yet", x.found(0), 0);
        for (int i = 0; i < NO_READER.length; i++) {
            due("reader " + NO_READER[i], x.of(NO_READER[i], 0), RingPost.FOUND);
            due("beyond", x.found(2), i + 1);
        }
        ofAll(x, 2, new int[] {3, 0, 0, 0, -1, -1, 0, 0, 0});
        ofAll(x, 5, new int[] {6, 0, 0, 0, -1, -1, 0, 1, 0});
        post(x, 0, 0, 3);
        due("six read, the merge doesn't", x.round(), 6);
        ofAll(x, 0, new int[] {1, 0, -1, 0, -1, -1, 0, 0, 1});
        ofAll(x, 1, new int[] {2, 0, 1, 0, -1, -1, 0, 0, 1});
        ofAll(x, 3, new int[] {4, 0, -1, 0, -1, -1, 0, 0, 1});
        ofAll(x, 4, new int[] {5, 0, 1, 0, -1, -1, 0, 0, 1}, x.read(4));
        post(x, 0, 0, 3);
        ofAll(x, 3, new int[] {4, 0, -1, 0, -1, -1, 1, 0, 1});
    }

    private static void ofAll(RingPost x, int reader, int[] want, int read) {
        due("the merge has got its claim by the echo", read, 1);
        ofAll(x, reader, want);
    }

    private static void ofAll(RingPost x, int reader, int[] want) {
        for (int what = 0; what < want.length; what++) {
            due("of " + reader + " " + what, x.of(reader, what), want[what]);
        }
    }

    private static void placesTold() {
        CHECKS.part("promise 25");
        RingPost x = allKinds(4);
        post(x, 0, 0, 0);
        post(x, 1, 5, 0);
        x.read(1);
        x.read(4);
        int[] places = {-1, 1, 0, -1, 1, 0, 0};
        for (int reader = 0; reader < 7; reader++) {
            due("in 0, reader " + reader, x.place(reader, 0), places[reader]);
            due("in 1, reader " + reader, x.place(reader, 1), reader == 4 ? 0 : -1);
            due("in 2, reader " + reader, x.place(reader, 2), -1);
            due("in -1, reader " + reader, x.place(reader, -1), -1);
            due("in 8, reader " + reader, x.place(reader, 8), -1);
        }
        for (int reader : NO_READER) {
            due("reader " + reader, x.place(reader, 0), -1);
        }
        due("no finding", x.found(0), 0);
    }

    private static void namesTold() {
        CHECKS.part("promise 26");
        RingPost x = new RingPost();
        x.ring(1);
        x.ring(1);
        for (int kind = 1; kind <= 7; kind++) {
            x.reader(kind, 0, kind == 6 ? 4 : 1);
        }
        x.name(5, 1);
        x.name(6, 5);
        due("first", x.named(5, 0), 4);
        due("second", x.named(5, 1), 1);
        for (int i : new int[] {LEAST, -1, 2, 3, 4, MOST}) {
            due("named " + i, x.named(5, i), -1);
        }
        due("of an echo", x.named(6, 0), 5);
        due("no second", x.named(6, 1), -1);
        due("no finding yet", x.found(0), 0);
        for (int reader = 0; reader < 5; reader++) {
            due("of another kind, " + reader, x.named(reader, 9), RingPost.FOUND);
        }
        due("casts", x.found(4), 5);
        due("the latest", x.found(0), 4);
        for (int reader : NO_READER) {
            due("reader " + reader, x.named(reader, 0), RingPost.FOUND);
        }
        due("beyond", x.found(2), 5);
    }

    private static void entriesTold() {
        CHECKS.part("promise 27");
        RingPost x = allKinds(4);
        due("none yet", x.entry(3, 0), -1);
        post(x, 0, 0, 31);
        post(x, 0, 0, 0);
        due("first", x.entry(3, 0), 31);
        due("second", x.entry(3, 1), 0);
        for (int i : new int[] {LEAST, -1, 2, 31, 32, MOST}) {
            due("entry " + i, x.entry(3, i), -1);
        }
        x.read(3);
        due("the second comes first", x.entry(3, 0), 0);
        due("and is the only one", x.entry(3, 1), -1);
        due("no finding yet", x.found(0), 0);
        for (int reader = 0; reader < 7; reader++) {
            if (reader != 3) {
                due("of another kind, " + reader, x.entry(reader, -1), RingPost.FOUND);
            }
        }
        due("casts", x.found(4), 6);
        for (int reader : NO_READER) {
            due("reader " + reader, x.entry(reader, 0), RingPost.FOUND);
        }
        due("beyond", x.found(2), 5);
    }

    private static void targetsTold() {
        CHECKS.part("promise 28");
        RingPost x = allKinds(1);
        due("target", x.target(6), 1);
        for (int reader = 0; reader < 6; reader++) {
            due("of another kind, " + reader, x.target(reader), RingPost.FOUND);
        }
        due("casts", x.found(4), 6);
        for (int reader : NO_READER) {
            due("reader " + reader, x.target(reader), RingPost.FOUND);
        }
        due("beyond", x.found(2), 5);
    }

    private static void whyAndOn(RingPost x, int reader, int why, int on) {
        due("why " + reader, x.why(reader), why);
        due("on " + reader, x.on(reader), on);
    }

    private static void whyOfSimpleReaders() {
        CHECKS.part("promises 29 and 30");
        RingPost early = new RingPost();
        early.ring(1);
        early.reader(2, 0, 0);
        whyAndOn(early, 0, RingPost.STATE, -1);
        whyAndOn(early, 1, RingPost.STATE, -1);
        RingPost x = allKinds(2);
        for (int reader : NO_READER) {
            whyAndOn(x, reader, RingPost.NUMBER, -1);
        }
        for (int reader = 0; reader < 4; reader++) {
            whyAndOn(x, reader, 2, -1);
        }
        x.batch(0, 0, 2);
        whyAndOn(x, 0, 2, -1);
        whyAndOn(x, 1, 3, 0);
        whyAndOn(x, 2, 3, 0);
        whyAndOn(x, 3, 2, -1);
        x.publish(0, 0, 0, 0);
        for (int reader = 0; reader < 4; reader++) {
            whyAndOn(x, reader, 0, -1);
            due("it is ready", x.read(reader), 1);
            whyAndOn(x, reader, reader == 0 || reader == 3 ? 2 : 3, reader == 0 || reader == 3 ? -1 : 1);
        }
        RingPost misses = oneReader(2, 3);
        post(misses, 0, 0, 0);
        post(misses, 0, 0, 0);
        misses.batch(0, 0, 2);
        whyAndOn(misses, 0, 3, 2);
        due("why moves no place", misses.place(0, 0), 0);
        misses.publish(0, 2, 0, 0);
        whyAndOn(misses, 0, 0, -1);
        RingPost given = allKinds(2);
        post(given, 1, 0, 0);
        given.give(0);
        int[] why = {1, 1, 1, 2, 0, 1, 1};
        for (int reader = 0; reader < 7; reader++) {
            whyAndOn(given, reader, why[reader], -1);
        }
    }

    private static void whyOfGateAndEcho() {
        CHECKS.part("promises 29 and 30");
        RingPost x = new RingPost();
        x.ring(4);
        x.ring(1);
        x.reader(2, 0, 0);
        x.reader(2, 0, 0);
        x.reader(6, 0, 1);
        x.name(2, 0);
        x.reader(7, 0, 1);
        x.name(3, 2);
        x.reader(7, 0, 1);
        x.begin();
        whyAndOn(x, 2, 2, -1);
        whyAndOn(x, 3, 2, -1);
        x.batch(0, 0, 3);
        whyAndOn(x, 2, 3, 0);
        whyAndOn(x, 3, 3, 0);
        x.publish(0, 0, 0, 0);
        x.publish(0, 1, 0, 0);
        whyAndOn(x, 2, 4, 0);
        x.read(0);
        whyAndOn(x, 2, 4, 1);
        x.read(1);
        whyAndOn(x, 2, 0, -1);
        x.claim(1, 0);
        whyAndOn(x, 3, 4, 2);
        x.read(2);
        whyAndOn(x, 3, 5, 1);
        whyAndOn(x, 4, 5, 1);
        x.publish(1, 0, 0, 0);
        whyAndOn(x, 3, 0, -1);
        x.close(1);
        whyAndOn(x, 3, 5, 1);
        x.give(1);
        whyAndOn(x, 3, 5, 1);
        due("and nothing is read", x.read(3), 0);
    }

    private static void whyOfMerge() {
        CHECKS.part("promises 29 and 30");
        RingPost x = mergeOf(4);
        whyAndOn(x, 0, 7, 0);
        post(x, 0, 1, 0);
        whyAndOn(x, 0, 7, 1);
        x.close(1);
        whyAndOn(x, 0, 7, 2);
        x.give(2);
        whyAndOn(x, 0, 7, 3);
        x.claim(3, 0);
        whyAndOn(x, 0, 7, 3);
        x.publish(3, 0, 0, 0);
        whyAndOn(x, 0, 0, -1);
        x.close(0);
        x.close(3);
        x.read(0);
        whyAndOn(x, 0, 0, -1);
        x.read(0);
        whyAndOn(x, 0, 6, -1);
        due("got both", x.of(0, 8), 2);
    }

    private static void onWithoutAReason() {
        CHECKS.part("promise 30");
        RingPost x = allKinds(2);
        x.give(0);
        x.give(1);
        for (int reader = 0; reader < 7; reader++) {
            due("on " + reader, x.on(reader), -1);
        }
        due("the merge passes over all", x.why(4), 6);
        due("no finding", x.found(0), 0);
    }

    private static void stuckPosts() {
        CHECKS.part("promise 31");
        RingPost x = new RingPost();
        x.ring(1);
        x.reader(2, 0, 0);
        CHECKS.due("not begun", x.stuck(), false);
        x.begin();
        CHECKS.due("a claim is free", x.stuck(), false);
        x.claim(0, 0);
        CHECKS.due("open and held up", x.stuck(), true);
        x.publish(0, 0, 0, 0);
        CHECKS.due("the reader is ready", x.stuck(), false);
        x.read(0);
        CHECKS.due("free again", x.stuck(), false);
        x.claim(0, 0);
        x.close(0);
        CHECKS.due("no ring that is neither", x.stuck(), false);
        RingPost given = oneReader(1, 2);
        given.give(0);
        CHECKS.due("given", given.stuck(), false);
    }

    private static void stuckNeedsEachLiveRing() {
        CHECKS.part("promise 31");
        RingPost x = new RingPost();
        x.ring(1);
        x.ring(1);
        x.ring(1);
        x.reader(5, 0, 1);
        x.reader(1, 2, 0);
        x.begin();
        post(x, 0, 0, 0);
        CHECKS.due("two rings are free", x.stuck(), false);
        x.claim(1, 0);
        CHECKS.due("one is free", x.stuck(), false);
        x.claim(2, 0);
        CHECKS.due("all held up, nobody ready", x.stuck(), true);
        due("the merge waits", x.why(0), 7);
        x.publish(2, 0, 0, 0);
        CHECKS.due("the sees is ready", x.stuck(), false);
        x.read(1);
        CHECKS.due("its ring is free", x.stuck(), false);
        x.close(2);
        CHECKS.due("a closed ring counts nothing", x.stuck(), true);
        x.give(2);
        CHECKS.due("nor does a given one", x.stuck(), true);
        x.publish(1, 0, 0, 0);
        CHECKS.due("the merge is ready", x.stuck(), false);
    }

    private static void findingsCounted() {
        CHECKS.part("promise 32");
        RingPost x = allKinds(1);
        for (int what : new int[] {LEAST, -1, 7, MOST}) {
            due("what " + what, x.found(what), -1);
        }
        x.give(0);
        int[] counts = new int[7];
        for (int i = 0; i < 3; i++) {
            found(x, counts, 1, x.fill(0, 0, 0, 0));
            found(x, counts, 2, x.read(9));
            found(x, counts, 3, x.ring(-1));
            found(x, counts, 4, x.target(0));
            found(x, counts, 6, x.again());
            if (i == 0) {
                x.claim(1, 0);
                found(x, counts, 5, x.copy(1, 0, 0, 0, 9));
            }
            found(x, counts, 1, x.read(0));
        }
        due("other refusals are none", x.claim(1, 0), RingPost.HELD);
        due("the latest stays", x.found(0), 1);
    }

    private static void found(RingPost x, int[] counts, int which, int answer) {
        due("finding " + which, answer, RingPost.FOUND);
        counts[which]++;
        due("the latest", x.found(0), which);
        for (int what = 1; what <= 6; what++) {
            due("found " + what, x.found(what), counts[what]);
        }
    }
}
