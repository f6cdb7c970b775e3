/** Promises 1 to 8: a new object, and the calls ahead of the beginning. */
public final class AheadTest {
    private static final Checks CHECKS = new Checks();

    public static void main(String[] args) {
        newObject();
        ringNumbers();
        ringRefusals();
        readerNumbers();
        readerRefusals();
        joining();
        naming();
        namingFullAndStarted();
        circles();
        circleTakesTheLeast();
        circleByReaderZero();
        beginning();
        rowsMade();
        CHECKS.end();
    }

    private static void due(String call, long answer, long want) {
        CHECKS.due(call, answer, want);
    }

    private static void newObject() {
        CHECKS.part("promise 1");
        RingPost x = new RingPost();
        due("made", x.made(), 0);
        due("by", x.by(), -1);
        for (int what = 0; what <= 6; what++) {
            due("found " + what, x.found(what), 0);
        }
        for (int i = -1; i <= 16; i++) {
            due("circle " + i, x.circle(i), -1);
            due("last " + i, x.last(i), 0);
            due("place " + i, x.place(i, 0), -1);
            due("got " + i, x.got(i, 0), -1);
            due("word " + i, x.word(i, 0), 0);
        }
        CHECKS.due("stuck", x.stuck(), false);
        due("read is too early", x.read(0), RingPost.STATE);
        due("round is too early", x.round(), RingPost.STATE);
        due("no ring 0", x.told(0, 0), RingPost.FOUND);
        due("no reader 0", x.of(0, 0), RingPost.FOUND);
        due("nothing was refused", x.again(), RingPost.FOUND);
        due("latest", x.found(0), 6);
        due("beyond twice", x.found(2), 2);
        due("begin", x.begin(), 1);
    }

    private static void ringNumbers() {
        CHECKS.part("promise 2");
        RingPost x = new RingPost();
        int[] slots = {1, 2, 4, 8, 16, 32, 64, 1};
        for (int i = 0; i < slots.length; i++) {
            due("ring " + slots[i], x.ring(slots[i]), i);
            due("slots of " + i, x.told(i, 0), slots[i]);
        }
        due("a ninth", x.ring(2), RingPost.FULL);
        due("no ring 8", x.told(8, 0), RingPost.FOUND);
    }

    private static void ringRefusals() {
        CHECKS.part("promise 2");
        RingPost x = new RingPost();
        int[] none = {0, 3, 5, 6, 7, 9, 12, 63, 65, 96, 128, 1 << 30, Integer.MAX_VALUE};
        for (int slots : none) {
            due("ring " + slots, x.ring(slots), RingPost.NUMBER);
        }
        due("no finding yet", x.found(3), 0);
        due("ring -1", x.ring(-1), RingPost.FOUND);
        due("ring least", x.ring(Integer.MIN_VALUE), RingPost.FOUND);
        due("ring -4", x.ring(-4), RingPost.FOUND);
        due("sizes", x.found(3), 3);
        due("latest", x.found(0), 3);
        due("nothing was made", x.made(), 0);
        for (int i = 0; i < 8; i++) {
            x.ring(1);
        }
        due("begin", x.begin(), 1);
        due("state ahead of full", x.ring(1), RingPost.STATE);
        due("number ahead of state", x.ring(3), RingPost.NUMBER);
        due("size ahead of all", x.ring(-3), RingPost.FOUND);
    }

    private static void readerNumbers() {
        CHECKS.part("promise 3");
        RingPost x = new RingPost();
        x.ring(2);
        x.ring(4);
        due("sees", x.reader(1, 1, -9), 0);
        due("waits", x.reader(2, 1, 99), 1);
        due("misses", x.reader(3, 1, Integer.MIN_VALUE), 2);
        due("folds", x.reader(4, 1, 7), 3);
        due("merge", x.reader(5, 1, 0), 4);
        due("gate", x.reader(6, 1, 4), 5);
        due("echo", x.reader(7, 1, 0), 6);
        int[] places = {-1, 0, 0, -1, 0, 0, 0};
        for (int i = 0; i < 7; i++) {
            due("kind of " + i, x.of(i, 0), i + 1);
            due("ring of " + i, x.of(i, 1), 1);
            due("place of " + i, x.of(i, 2), places[i]);
            due("place in 0 of " + i, x.place(i, 0), i == 4 ? 0 : -1);
        }
        due("the gate names the merge", x.named(5, 0), 4);
        due("one name", x.of(5, 7), 1);
        due("the echo names none", x.of(6, 7), 0);
        due("target", x.target(6), 0);
        for (int i = 7; i < 16; i++) {
            due("reader " + i, x.reader(2, 0, 0), i);
        }
        due("a seventeenth", x.reader(2, 0, 0), RingPost.FULL);
        due("kind ahead of full", x.reader(6, 0, 1), RingPost.KIND);
        due("a gate too many", x.reader(6, 0, 7), RingPost.FULL);
    }

    private static void readerRefusals() {
        CHECKS.part("promise 3");
        RingPost x = new RingPost();
        x.ring(2);
        x.ring(2);
        due("no reader for a gate", x.reader(6, 0, 0), RingPost.NUMBER);
        for (int kind : new int[] {Integer.MIN_VALUE, -1, 0, 8, Integer.MAX_VALUE}) {
            due("kind " + kind, x.reader(kind, 0, 1), RingPost.NUMBER);
        }
        for (int kind = 1; kind <= 7; kind++) {
            due("ring -1 for " + kind, x.reader(kind, -1, 1), RingPost.NUMBER);
            due("ring 2 for " + kind, x.reader(kind, 2, 1), RingPost.NUMBER);
        }
        for (int kind = 5; kind <= 7; kind += 2) {
            due("the same ring for " + kind, x.reader(kind, 0, 0), RingPost.NUMBER);
            due("other 2 for " + kind, x.reader(kind, 0, 2), RingPost.NUMBER);
            due("other -1 for " + kind, x.reader(kind, 0, -1), RingPost.NUMBER);
        }
        due("sees", x.reader(1, 0, 0), 0);
        due("folds", x.reader(4, 0, 0), 1);
        due("waits in the other ring", x.reader(2, 1, 0), 2);
        for (int other = 0; other <= 2; other++) {
            due("no place of " + other, x.reader(6, 0, other), RingPost.KIND);
        }
        due("itself is not there yet", x.reader(6, 0, 3), RingPost.NUMBER);
        due("other -1", x.reader(6, 0, -1), RingPost.NUMBER);
        x.begin();
        due("number ahead of state", x.reader(8, 0, 0), RingPost.NUMBER);
        due("state ahead of kind", x.reader(6, 0, 0), RingPost.STATE);
        due("state", x.reader(2, 0, 0), RingPost.STATE);
        due("three were made", x.made(), 6 + 1 + 33 + 1);
    }

    private static void joining() {
        CHECKS.part("promise 4");
        RingPost x = new RingPost();
        for (int i = 0; i < 6; i++) {
            x.ring(1);
        }
        x.reader(5, 3, 1);
        x.reader(2, 0, 0);
        due("no reader 2", x.join(2, 0), RingPost.NUMBER);
        due("no reader -1", x.join(-1, 0), RingPost.NUMBER);
        due("no ring 6", x.join(0, 6), RingPost.NUMBER);
        due("no ring -1", x.join(0, -1), RingPost.NUMBER);
        due("no merge", x.join(1, 3), RingPost.KIND);
        due("kind ahead of there", x.join(1, 0), RingPost.KIND);
        due("its first", x.join(0, 3), RingPost.THERE);
        due("its second", x.join(0, 1), RingPost.THERE);
        due("a third", x.join(0, 5), 1);
        due("place there", x.place(0, 5), 0);
        due("no place yet", x.place(0, 0), -1);
        due("a fourth", x.join(0, 0), 1);
        due("a fifth", x.join(0, 2), RingPost.FULL);
        due("no place in the fifth", x.place(0, 2), -1);
        due("there ahead of full", x.join(0, 0), RingPost.THERE);
        due("the first stays", x.of(0, 1), 3);
        x.begin();
        due("state ahead of kind", x.join(1, 3), RingPost.STATE);
        due("state ahead of full", x.join(0, 2), RingPost.STATE);
        due("number ahead of state", x.join(0, 6), RingPost.NUMBER);
    }

    private static void naming() {
        CHECKS.part("promise 5");
        RingPost x = new RingPost();
        x.ring(1);
        x.ring(1);
        x.reader(2, 0, 0);
        x.reader(6, 0, 0);
        x.reader(7, 0, 1);
        x.reader(3, 0, 0);
        x.reader(5, 1, 0);
        x.reader(1, 0, 0);
        x.reader(4, 0, 0);
        x.reader(2, 1, 0);
        due("no reader 8", x.name(8, 0), RingPost.NUMBER);
        due("no reader -1", x.name(-1, 0), RingPost.NUMBER);
        due("no other 8", x.name(1, 8), RingPost.NUMBER);
        due("no other -1", x.name(1, -1), RingPost.NUMBER);
        for (int reader : new int[] {0, 3, 4, 5, 6, 7}) {
            due(reader + " names none", x.name(reader, 0), RingPost.KIND);
        }
        due("kind ahead of there", x.name(0, 0), RingPost.KIND);
        due("a sees has no place", x.name(1, 5), RingPost.KIND);
        due("a folds has no place", x.name(1, 6), RingPost.KIND);
        due("no place in its ring", x.name(2, 7), RingPost.KIND);
        due("itself", x.name(1, 1), RingPost.THERE);
        due("named at first", x.name(1, 0), RingPost.THERE);
        due("a misses", x.name(1, 3), 1);
        due("named again", x.name(1, 3), RingPost.THERE);
        due("a merge by its second ring", x.name(1, 4), 1);
        due("a gate", x.name(2, 1), 1);
        due("names of 1", x.of(1, 7), 3);
        due("names of 2", x.of(2, 7), 1);
    }

    private static void namingFullAndStarted() {
        CHECKS.part("promise 5");
        RingPost x = new RingPost();
        x.ring(1);
        for (int i = 0; i < 6; i++) {
            x.reader(2, 0, 0);
        }
        x.reader(6, 0, 5);
        x.reader(6, 0, 6);
        due("second", x.name(6, 1), 1);
        due("third", x.name(6, 4), 1);
        due("fourth", x.name(6, 0), 1);
        due("fifth", x.name(6, 2), RingPost.FULL);
        due("there ahead of full", x.name(6, 4), RingPost.THERE);
        due("full ahead of circle", x.name(6, 7), RingPost.FULL);
        due("no circle was told", x.circle(0), -1);
        int[] order = {5, 1, 4, 0};
        for (int i = 0; i < 4; i++) {
            due("named " + i, x.named(6, i), order[i]);
        }
        x.begin();
        due("state ahead of kind", x.name(0, 1), RingPost.STATE);
        due("state", x.name(7, 1), RingPost.STATE);
        due("number ahead of state", x.name(7, 8), RingPost.NUMBER);
    }

    private static void circles() {
        CHECKS.part("promise 6");
        RingPost x = new RingPost();
        x.ring(1);
        x.ring(1);
        x.reader(7, 0, 1);
        for (int i = 1; i < 16; i++) {
            x.reader(6, 0, i - 1);
        }
        due("a circle of all", x.name(0, 15), RingPost.CIRCLE);
        due("its reader", x.circle(0), 0);
        for (int i = 1; i < 16; i++) {
            due("circle " + i, x.circle(i), 16 - i);
        }
        due("beyond", x.circle(16), -1);
        due("far beyond", x.circle(Integer.MAX_VALUE), -1);
        due("below", x.circle(-1), -1);
        due("nothing was named", x.of(0, 7), 0);
        due("the other refusals keep it", x.name(0, 0), RingPost.THERE);
        due("kept", x.circle(15), 1);
        due("a shorter one", x.name(3, 5), RingPost.CIRCLE);
        due("reader 3", x.circle(0), 3);
        due("other 5", x.circle(1), 5);
        due("then 4", x.circle(2), 4);
        due("the end", x.circle(3), -1);
        due("one step", x.name(3, 4), RingPost.CIRCLE);
        due("other 4", x.circle(1), 4);
        due("4 names 3", x.circle(2), -1);
    }

    private static void circleTakesTheLeast() {
        CHECKS.part("promise 6");
        RingPost x = new RingPost();
        x.ring(1);
        x.ring(1);
        x.reader(2, 0, 0);
        x.reader(7, 0, 1);
        x.reader(7, 0, 1);
        x.reader(7, 0, 1);
        x.reader(7, 0, 1);
        x.reader(7, 0, 1);
        due("5 names 4", x.name(5, 4), 1);
        due("5 names 3", x.name(5, 3), 1);
        due("5 names 0, a way to nowhere", x.name(5, 0), 1);
        due("5 names 2, another one", x.name(5, 2), 1);
        due("4 names 1", x.name(4, 1), 1);
        due("3 names 1", x.name(3, 1), 1);
        due("1 names 5", x.name(1, 5), RingPost.CIRCLE);
        int[] way = {1, 5, 3, -1};
        for (int i = 0; i < way.length; i++) {
            due("circle " + i, x.circle(i), way[i]);
        }
        due("a name that goes", x.name(2, 1), 1);
        due("as names were then", x.circle(2), 3);
        due("1 names 5 once more", x.name(1, 5), RingPost.CIRCLE);
        due("by 2 now", x.circle(2), 2);
        due("the end", x.circle(3), -1);
    }

    private static void circleByReaderZero() {
        CHECKS.part("promise 6");
        RingPost x = new RingPost();
        x.ring(1);
        x.ring(1);
        for (int i = 0; i < 3; i++) {
            x.reader(7, 0, 1);
        }
        due("0 names 1", x.name(0, 1), 1);
        due("2 names 0", x.name(2, 0), 1);
        due("1 names 2", x.name(1, 2), RingPost.CIRCLE);
        int[] way = {1, 2, 0, -1};
        for (int i = 0; i < way.length; i++) {
            due("circle " + i, x.circle(i), way[i]);
        }
    }

    private static void beginning() {
        CHECKS.part("promise 7");
        RingPost x = new RingPost();
        due("an empty post begins", x.begin(), 1);
        due("again", x.begin(), RingPost.STATE);
        due("nobody reads", x.round(), 0);
        CHECKS.due("no ring, not stuck", x.stuck(), false);
    }

    private static void rowsMade() {
        CHECKS.part("promise 8");
        RingPost x = new RingPost();
        x.ring(64);
        due("a ring", x.made(), 65);
        x.ring(1);
        due("a small ring", x.made(), 67);
        x.ring(3);
        due("a refused ring", x.made(), 67);
        int want = 67;
        x.reader(2, 0, 0);
        want++;
        for (int kind = 1; kind <= 7; kind++) {
            x.reader(kind, 0, kind == 6 ? 0 : 1);
            want += kind == 4 ? 33 : 1;
            due("kind " + kind, x.made(), want);
        }
        x.reader(9, 0, 0);
        due("a refused reader", x.made(), want);
        x.begin();
        x.claim(0, 1);
        x.publish(0, 0, 1, 1);
        x.round();
        due("nothing is made later", x.made(), want);
    }
}
