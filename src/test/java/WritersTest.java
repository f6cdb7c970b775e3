/** Promises 9 to 19: the calls of writers. */
public final class WritersTest {
    private static final Checks CHECKS = new Checks();
    private static final int LEAST = Integer.MIN_VALUE;
    private static final int MOST = Integer.MAX_VALUE;

    public static void main(String[] args) {
        claiming();
        claimRefusals();
        claimsHeldByEachKind();
        batches();
        batchRefusals();
        whoHolds();
        refusalsAgain();
        filling();
        fillRefusals();
        copying();
        copyRefusals();
        publishing();
        closing();
        givingBack();
        giveIsHeld();
        tellingOfRings();
        holdersTold();
        lastStamps();
        CHECKS.end();
    }

    private static void due(String call, long answer, long want) {
        CHECKS.due(call, answer, want);
    }

    /** A post that has begun, with one ring and one reader of kind 1 to 4. */
    private static RingPost post(int slots, int kind) {
        RingPost x = new RingPost();
        x.ring(slots);
        x.reader(kind, 0, 0);
        x.begin();
        return x;
    }

    private static void claiming() {
        CHECKS.part("promise 9");
        RingPost x = post(2, 1);
        due("first, of the least stamp", x.claim(0, Long.MIN_VALUE), 0);
        due("second, of the same", x.claim(0, Long.MIN_VALUE), 1);
        due("the oldest is open", x.claim(0, 0), RingPost.HELD);
        x.publish(0, 1, 0, 0);
        due("it still is", x.claim(0, 0), RingPost.HELD);
        x.publish(0, 0, 0, 0);
        due("third", x.claim(0, Long.MAX_VALUE), 2);
        due("fourth", x.claim(0, Long.MAX_VALUE), 3);
        due("claimed", x.told(0, 1), 4);
    }

    private static void claimRefusals() {
        CHECKS.part("promise 9");
        RingPost x = new RingPost();
        due("no ring", x.claim(0, 0), RingPost.NUMBER);
        x.ring(1);
        due("too early", x.claim(0, 0), RingPost.STATE);
        due("number ahead of state", x.claim(1, 0), RingPost.NUMBER);
        x.begin();
        for (int ring : new int[] {LEAST, -1, 1, 7, 8, MOST}) {
            due("ring " + ring, x.claim(ring, 0), RingPost.NUMBER);
        }
        due("below 0 at first", x.claim(0, -5), 0);
        due("falls ahead of held", x.claim(0, -6), RingPost.FALLS);
        due("equal is held", x.claim(0, -5), RingPost.HELD);
        x.publish(0, 0, 0, 0);
        due("falls", x.claim(0, Long.MIN_VALUE), RingPost.FALLS);
        due("refused ones count nothing", x.told(0, 1), 1);
        due("and leave last", x.last(0), -5);
        x.close(0);
        due("closed ahead of falls", x.claim(0, -6), RingPost.CLOSED);
        x.give(0);
        due("given ahead of closed", x.claim(0, 9), RingPost.GIVEN);
    }

    private static void claimsHeldByEachKind() {
        CHECKS.part("promise 9");
        for (int kind = 1; kind <= 7; kind++) {
            RingPost x = new RingPost();
            x.ring(1);
            x.ring(1);
            x.reader(3, 0, 0);
            x.reader(kind, 0, kind == 6 ? 0 : 1);
            x.begin();
            x.claim(0, 0);
            x.publish(0, 0, 0, 0);
            boolean holds = kind == 2 || kind >= 5;
            due("kind " + kind, x.claim(0, 0), holds ? RingPost.HELD : 1);
            due("by, kind " + kind, x.by(), holds ? 1 : -1);
        }
    }

    private static void batches() {
        CHECKS.part("promise 10");
        RingPost x = post(4, 2);
        due("three", x.batch(0, 7, 3), 0);
        due("open", x.told(0, 2), 3);
        due("last", x.last(0), 7);
        due("two more are too many", x.batch(0, 8, 2), RingPost.HELD);
        due("none of them was made", x.told(0, 1), 3);
        due("last stays", x.last(0), 7);
        due("one more", x.batch(0, 8, 1), 3);
        for (int q = 0; q < 4; q++) {
            x.publish(0, q, q, q);
        }
        x.read(0);
        x.read(0);
        due("got", x.got(0, 2), 7);
        due("two are free", x.batch(0, 9, 2), 4);
        due("not a third", x.batch(0, 9, 1), RingPost.HELD);
        RingPost whole = post(64, 1);
        due("a whole ring", whole.batch(0, 0, 64), 0);
        for (int q = 0; q < 64; q++) {
            whole.publish(0, q, 0, 0);
        }
        due("and once more", whole.batch(0, 0, 64), 64);
        due("claimed", whole.told(0, 1), 128);
    }

    private static void batchRefusals() {
        CHECKS.part("promise 10");
        RingPost x = new RingPost();
        x.ring(4);
        due("too early", x.batch(0, 0, 4), RingPost.STATE);
        due("number ahead of state", x.batch(0, 0, 5), RingPost.NUMBER);
        x.begin();
        for (int n : new int[] {LEAST, -1, 0, 5, 64, MOST}) {
            due("n " + n, x.batch(0, 0, n), RingPost.NUMBER);
        }
        for (int ring : new int[] {LEAST, -1, 1, MOST}) {
            due("ring " + ring, x.batch(ring, 0, 1), RingPost.NUMBER);
        }
        due("four", x.batch(0, 5, 4), 0);
        due("falls ahead of held", x.batch(0, 4, 1), RingPost.FALLS);
        due("held", x.batch(0, 5, 1), RingPost.HELD);
        x.close(0);
        due("closed ahead of falls", x.batch(0, 4, 1), RingPost.CLOSED);
        due("number ahead of closed", x.batch(0, 4, 0), RingPost.NUMBER);
        for (int q = 0; q < 4; q++) {
            x.publish(0, q, 0, 0);
        }
        x.give(0);
        due("given ahead of closed", x.batch(0, 4, 1), RingPost.GIVEN);
    }

    private static void whoHolds() {
        CHECKS.part("promise 11");
        RingPost x = new RingPost();
        x.ring(2);
        x.reader(1, 0, 0);
        x.reader(2, 0, 0);
        x.reader(2, 0, 0);
        due("none yet", x.by(), -1);
        x.begin();
        x.batch(0, 0, 2);
        x.publish(0, 0, 0, 0);
        x.publish(0, 1, 0, 0);
        due("held", x.claim(0, 0), RingPost.HELD);
        due("the least holder", x.by(), 1);
        x.read(1);
        due("held by the other one", x.claim(0, 0), RingPost.HELD);
        due("by 2", x.by(), 2);
        x.read(2);
        x.read(2);
        due("of a batch the first that is held up", x.batch(0, 0, 2), RingPost.HELD);
        due("by 1, whose place is 1", x.by(), 1);
        due("another refusal", x.claim(0, -1), RingPost.FALLS);
        due("leaves by", x.by(), 1);
        due("a claim", x.claim(0, 0), 2);
        due("leaves by, too", x.by(), 1);
        x.read(1);
        x.claim(0, 0);
        x.read(1);
        due("an open claim, and holders behind it", x.claim(0, 0), RingPost.HELD);
        due("the least of them", x.by(), 1);
        RingPost open = post(1, 1);
        open.claim(0, 0);
        due("an open claim alone", open.claim(0, 0), RingPost.HELD);
        due("by none", open.by(), -1);
        RingPost two = new RingPost();
        two.ring(2);
        two.reader(2, 0, 0);
        two.begin();
        two.batch(0, 0, 2);
        two.publish(0, 0, 0, 0);
        two.read(0);
        due("the second is open, its holder behind", two.batch(0, 0, 2), RingPost.HELD);
        due("by that holder", two.by(), 0);
    }

    private static void refusalsAgain() {
        CHECKS.part("promise 12");
        RingPost x = new RingPost();
        due("none yet", x.again(), RingPost.FOUND);
        due("none is a finding", x.found(6), 1);
        due("the latest", x.found(0), 6);
        x.ring(1);
        x.ring(3);
        due("other calls don't count", x.again(), RingPost.FOUND);
        x.claim(0, 0);
        due("state", x.again(), RingPost.STATE);
        due("as often as one likes", x.again(), RingPost.STATE);
        x.claim(9, 0);
        due("number", x.again(), RingPost.NUMBER);
        x.begin();
        x.claim(0, 5);
        due("a claim leaves it", x.again(), RingPost.NUMBER);
        x.batch(0, 5, 1);
        due("held", x.again(), RingPost.HELD);
        x.claim(0, 4);
        due("falls", x.again(), RingPost.FALLS);
        x.publish(0, 7, 0, 0);
        x.close(5);
        due("refusals of other calls leave it", x.again(), RingPost.FALLS);
        x.close(0);
        x.batch(0, 5, 1);
        due("closed", x.again(), RingPost.CLOSED);
        x.publish(0, 0, 0, 0);
        x.give(0);
        x.claim(0, 6);
        due("given", x.again(), RingPost.GIVEN);
        due("no more findings", x.found(6), 2);
    }

    private static void filling() {
        CHECKS.part("promise 13");
        RingPost x = post(2, 2);
        x.batch(0, 0, 2);
        for (int i = 0; i < 8; i++) {
            due("fill " + i, x.fill(0, 0, i, 100 + i), 1);
        }
        due("fill once more", x.fill(0, 0, 3, Long.MIN_VALUE), 1);
        due("fill the other one", x.fill(0, 1, 0, Long.MAX_VALUE), 1);
        x.publish(0, 0, 0, 0);
        x.publish(0, 1, 0, 0);
        x.read(0);
        for (int i = 0; i < 8; i++) {
            due("word " + i, x.word(0, i), i == 3 ? Long.MIN_VALUE : 100 + i);
        }
        x.read(0);
        due("word 0 of the other one", x.word(0, 0), Long.MAX_VALUE);
        due("word 1 of it", x.word(0, 1), 0);
        due("the slot again", x.claim(0, 0), 2);
        x.publish(0, 2, 0, 8);
        x.read(0);
        for (int i = 0; i < 8; i++) {
            due("all 0 when it is made, " + i, x.word(0, i), 0);
        }
    }

    private static void fillRefusals() {
        CHECKS.part("promise 13");
        RingPost x = new RingPost();
        x.ring(2);
        due("too early", x.fill(0, 0, 9, 0), RingPost.STATE);
        due("number ahead of state", x.fill(1, 0, 0, 0), RingPost.NUMBER);
        x.begin();
        due("no ring -1", x.fill(-1, 0, 0, 0), RingPost.NUMBER);
        due("nothing claimed", x.fill(0, 0, 0, 0), RingPost.NOT);
        x.batch(0, 0, 2);
        for (int q : new int[] {LEAST, -2, -1, 2, 3, MOST}) {
            due("claim " + q, x.fill(0, q, 0, 0), RingPost.NOT);
            due("not ahead of beyond, " + q, x.fill(0, q, 8, 0), RingPost.NOT);
        }
        due("no finding yet", x.found(2), 0);
        for (int i : new int[] {LEAST, -1, 8, MOST}) {
            due("long " + i, x.fill(0, 0, i, 0), RingPost.FOUND);
            due("is beyond", x.found(0), 2);
        }
        due("beyond four times", x.found(2), 4);
        x.publish(0, 0, 0, 0);
        due("published", x.fill(0, 0, 0, 0), RingPost.NOT);
        x.claim(0, 0);
        due("lost, though its slot is open", x.fill(0, 0, 0, 0), RingPost.NOT);
        due("the one that is", x.fill(0, 2, 0, 0), 1);
        x.publish(0, 1, 0, 0);
        x.publish(0, 2, 0, 0);
        x.give(0);
        due("given", x.fill(0, 9, 9, 0), RingPost.FOUND);
        due("is missing", x.found(0), 1);
    }

    private static RingPost postWithWords() {
        RingPost x = new RingPost();
        x.ring(4);
        x.reader(2, 0, 0);
        x.reader(2, 0, 0);
        x.begin();
        x.batch(0, 0, 4);
        for (int i = 0; i < 8; i++) {
            x.fill(0, 0, i, 10 + i);
            x.fill(0, 1, i, 90 + i);
        }
        x.publish(0, 0, 0, 0);
        x.read(0);
        return x;
    }

    private static void copying() {
        CHECKS.part("promise 14");
        RingPost x = postWithWords();
        due("three from 5 on", x.copy(0, 1, 0, 5, 3), 1);
        x.publish(0, 1, 0, 0);
        x.read(0);
        long[] want = {15, 16, 17, 93, 94, 95, 96, 97};
        for (int i = 0; i < 8; i++) {
            due("word " + i, x.word(0, i), want[i]);
        }
        due("all of it", x.copy(0, 2, 0, 0, 8), 1);
        due("none from the end", x.copy(0, 2, 0, 8, 0), 1);
        due("none", x.copy(0, 2, 0, 0, 0), 1);
        due("zeros of one that got nothing", x.copy(0, 2, 1, 6, 2), 1);
        x.publish(0, 2, 0, 0);
        x.read(0);
        long[] then = {0, 0, 17, 93, 94, 95, 96, 97};
        for (int i = 0; i < 8; i++) {
            due("word then " + i, x.word(0, i), then[i]);
        }
    }

    private static void copyRefusals() {
        CHECKS.part("promise 14");
        RingPost early = new RingPost();
        early.ring(1);
        early.reader(2, 0, 0);
        due("too early", early.copy(0, 0, 0, 0, 1), RingPost.STATE);
        due("no ring ahead of state", early.copy(1, 0, 0, 0, 1), RingPost.NUMBER);
        due("no reader ahead of state", early.copy(0, 0, 1, 0, 1), RingPost.NUMBER);
        RingPost x = postWithWords();
        due("no ring", x.copy(-1, 1, 0, 0, 1), RingPost.NUMBER);
        due("no reader -1", x.copy(0, 1, -1, 0, 1), RingPost.NUMBER);
        due("no reader 2", x.copy(0, 1, 2, 0, 1), RingPost.NUMBER);
        due("published", x.copy(0, 0, 0, 0, 1), RingPost.NOT);
        due("not ahead of copy", x.copy(0, 4, 0, -1, 1), RingPost.NOT);
        int[][] wrong = {{-1, 1}, {0, -1}, {0, 9}, {9, 0}, {8, 1}, {1, 8}, {5, 4}, {LEAST, LEAST}, {LEAST, 8},
            {MOST, MOST}, {MOST, 1}, {1, MOST}, {8, LEAST}, {-1, 9}, {9, -1}};
        for (int i = 0; i < wrong.length; i++) {
            due("copy " + wrong[i][0] + " " + wrong[i][1], x.copy(0, 1, 0, wrong[i][0], wrong[i][1]), RingPost.FOUND);
            due("is counted", x.found(5), i + 1);
            due("is the latest", x.found(0), 5);
        }
        x.publish(0, 1, 0, 0);
        x.read(0);
        due("nothing was copied", x.word(0, 0), 90);
        RingPost given = post(1, 1);
        given.give(0);
        due("given", given.copy(0, 0, 0, -1, 0), RingPost.FOUND);
        due("is missing", given.found(0), 1);
    }

    private static void publishing() {
        CHECKS.part("promise 15");
        RingPost x = new RingPost();
        x.ring(4);
        x.reader(2, 0, 0);
        due("too early", x.publish(0, 0, 0, 0), RingPost.STATE);
        due("number ahead of state", x.publish(0, 0, 32, 0), RingPost.NUMBER);
        x.begin();
        x.batch(0, 3, 4);
        due("ring -1", x.publish(-1, 0, 0, 0), RingPost.NUMBER);
        due("ring 1", x.publish(1, 0, 0, 0), RingPost.NUMBER);
        for (int key : new int[] {LEAST, -1, 32, MOST}) {
            due("key " + key, x.publish(0, 0, key, 0), RingPost.NUMBER);
        }
        for (int length : new int[] {LEAST, -1, 9, MOST}) {
            due("length " + length, x.publish(0, 0, 0, length), RingPost.NUMBER);
        }
        for (int q : new int[] {LEAST, -1, 4, MOST}) {
            due("claim " + q, x.publish(0, q, 0, 0), RingPost.NOT);
        }
        due("number ahead of not", x.publish(0, 4, 32, 0), RingPost.NUMBER);
        due("out of order", x.publish(0, 2, 31, 8), 1);
        due("twice", x.publish(0, 2, 31, 8), RingPost.NOT);
        due("nothing for the reader", x.read(0), 0);
        due("the first", x.publish(0, 0, 7, 5), 1);
        due("read", x.read(0), 1);
        due("key", x.got(0, 3), 7);
        due("length", x.got(0, 4), 5);
        x.close(0);
        due("also of a ring that is closed", x.publish(0, 1, 1, 1), 1);
        due("and the last", x.publish(0, 3, 0, 0), 1);
        for (int i = 0; i < 3; i++) {
            x.read(0);
        }
        x.give(0);
        due("given ahead of not", x.publish(0, 9, 0, 0), RingPost.GIVEN);
        due("number ahead of given", x.publish(0, 9, 32, 0), RingPost.NUMBER);
    }

    private static void closing() {
        CHECKS.part("promise 16");
        RingPost x = new RingPost();
        x.ring(1);
        x.ring(1);
        due("too early", x.close(0), RingPost.STATE);
        due("number ahead of state", x.close(2), RingPost.NUMBER);
        x.begin();
        due("ring -1", x.close(-1), RingPost.NUMBER);
        due("ring 2", x.close(2), RingPost.NUMBER);
        due("there", x.told(0, 6), 0);
        due("close", x.close(0), 1);
        due("is closed", x.told(0, 6), 1);
        due("the other one isn't", x.told(1, 6), 0);
        due("again", x.close(0), RingPost.CLOSED);
        due("no claim", x.claim(0, 0), RingPost.CLOSED);
        x.give(0);
        due("given ahead of closed", x.close(0), RingPost.GIVEN);
        x.give(1);
        due("given", x.close(1), RingPost.GIVEN);
    }

    private static void givingBack() {
        CHECKS.part("promise 17");
        RingPost x = new RingPost();
        x.ring(2);
        x.reader(2, 0, 0);
        due("too early", x.give(0), RingPost.STATE);
        due("number ahead of state", x.give(1), RingPost.NUMBER);
        x.begin();
        due("ring -1", x.give(-1), RingPost.NUMBER);
        x.claim(0, 0);
        due("open", x.give(0), RingPost.HELD);
        due("by is of claims alone", x.by(), -1);
        due("again is, too", x.again(), RingPost.FOUND);
        x.publish(0, 0, 0, 0);
        due("not read", x.give(0), RingPost.HELD);
        x.read(0);
        due("give", x.give(0), 1);
        due("is given", x.told(0, 6), 2);
        due("again", x.give(0), RingPost.GIVEN);
        due("what was got stays", x.got(0, 1), 0);
        RingPost fresh = post(4, 2);
        due("a ring without claims", fresh.give(0), 1);
        RingPost closed = post(4, 2);
        closed.close(0);
        due("a closed ring", closed.give(0), 1);
        due("is given then", closed.told(0, 6), 2);
    }

    private static void giveIsHeld() {
        CHECKS.part("promise 17");
        for (int kind = 1; kind <= 7; kind++) {
            RingPost x = new RingPost();
            x.ring(4);
            x.ring(4);
            x.reader(3, 0, 0);
            x.reader(kind, 0, kind == 6 ? 0 : 1);
            x.begin();
            x.claim(0, 0);
            x.publish(0, 0, 0, 0);
            boolean holds = kind == 2 || kind >= 5;
            due("kind " + kind, x.give(0), holds ? RingPost.HELD : 1);
        }
        RingPost open = post(4, 1);
        open.batch(0, 0, 2);
        open.publish(0, 0, 0, 0);
        due("the second is open", open.give(0), RingPost.HELD);
        open.publish(0, 1, 0, 0);
        due("now it goes", open.give(0), 1);
    }

    private static void tellingOfRings() {
        CHECKS.part("promise 18");
        RingPost x = new RingPost();
        x.ring(2);
        x.reader(2, 0, 0);
        x.reader(3, 0, 0);
        for (int what : new int[] {LEAST, -1, 7, MOST}) {
            due("what " + what, x.told(0, what), RingPost.NUMBER);
            due("number ahead of beyond, " + what, x.told(1, what), RingPost.NUMBER);
        }
        due("no finding yet", x.found(2), 0);
        due("ring 1", x.told(1, 0), RingPost.FOUND);
        due("ring -1", x.told(-1, 6), RingPost.FOUND);
        due("beyond", x.found(2), 2);
        toldAll(x, new int[] {2, 0, 0, 0, 1, 0, 0});
        x.begin();
        x.claim(0, 0);
        toldAll(x, new int[] {2, 1, 1, 0, 1, 0, 0});
        x.claim(0, 0);
        toldAll(x, new int[] {2, 2, 2, 0, 1, 1, 0});
        x.publish(0, 0, 0, 0);
        toldAll(x, new int[] {2, 2, 1, 0, 1, 1, 0});
        x.read(0);
        toldAll(x, new int[] {2, 2, 1, 1, 1, 0, 0});
        x.claim(0, 0);
        x.close(0);
        toldAll(x, new int[] {2, 3, 2, 1, 1, 1, 1});
        x.publish(0, 1, 0, 0);
        x.publish(0, 2, 0, 0);
        x.read(0);
        x.read(0);
        x.give(0);
        toldAll(x, new int[] {2, 3, 0, 3, 1, 0, 2});
    }

    private static void toldAll(RingPost x, int[] want) {
        for (int what = 0; what < want.length; what++) {
            due("told " + what + " at " + want[1] + " claims", x.told(0, what), want[what]);
        }
    }

    private static void holdersTold() {
        CHECKS.part("promise 18");
        RingPost x = new RingPost();
        x.ring(4);
        x.ring(4);
        x.ring(4);
        x.reader(1, 0, 0);
        x.reader(3, 0, 0);
        x.reader(4, 0, 0);
        due("none of these holds", x.told(0, 4), 0);
        due("no least place", x.told(0, 3), -1);
        x.reader(2, 0, 0);
        x.reader(6, 0, 1);
        x.reader(7, 0, 1);
        x.reader(5, 0, 1);
        due("four hold", x.told(0, 4), 4);
        due("the merge holds its second ring, too", x.told(1, 4), 1);
        due("nobody the third", x.told(2, 4), 0);
        x.join(6, 2);
        due("now one does", x.told(2, 4), 1);
        due("its place", x.told(2, 3), 0);
        x.begin();
        x.claim(0, 0);
        x.publish(0, 0, 0, 0);
        x.read(3);
        due("the others didn't read", x.told(0, 3), 0);
        x.read(1);
        x.read(4);
        x.read(5);
        due("the merge is still behind", x.told(0, 3), 0);
        x.close(2);
        due("the merge reads", x.read(6), 1);
        due("all have read", x.told(0, 3), 1);
        RingPost two = new RingPost();
        two.ring(2);
        two.reader(2, 0, 0);
        two.reader(2, 0, 0);
        two.begin();
        two.claim(0, 0);
        two.publish(0, 0, 0, 0);
        two.read(1);
        due("the first holder is the one behind", two.told(0, 3), 0);
    }

    private static void lastStamps() {
        CHECKS.part("promise 19");
        RingPost x = post(2, 1);
        due("before the first", x.last(0), 0);
        x.claim(0, -7);
        due("below 0", x.last(0), -7);
        x.claim(0, Long.MAX_VALUE);
        due("the greatest", x.last(0), Long.MAX_VALUE);
        for (int ring : new int[] {LEAST, -1, 1, 8, MOST}) {
            due("ring " + ring, x.last(ring), 0);
        }
        due("that is no finding", x.found(0), 0);
    }
}
