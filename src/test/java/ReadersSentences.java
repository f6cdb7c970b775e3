/** Promises 20 to 32, of readers, sentence by sentence. */
final class ReadersSentences extends Sentences {
    /** Numbers that are no reader where there are seven of them. */
    private static final String NONE_OF_SEVEN = "MIN|-1|7|15|16|MAX";

    ReadersSentences(Checks checks, Document document) {
        super(checks, document);
    }

    @Override
    void all() {
        read();
        readMissing();
        round();
        got();
        word();
        of();
        ofMissed();
        ofRefusals();
        place();
        named();
        entry();
        target();
        whyReadyOrGiven();
        whyNothing();
        whyOpen();
        whyNamed();
        whyTarget();
        whyMerge();
        whyMisses();
        whyRefusals();
        on();
        onInOtherCases();
        stuck();
        found();
        endSentence();
    }

    /** A ring of two slots and 16 readers of it; the kind of the first and the last one is told. */
    private static String sixteen(int kind) {
        return "ring(2)=0 reader(" + kind + ",0,0)=0 reader(3*14,0,0)=1..14 reader(" + kind + ",0,0)=15 ";
    }

    private void read() {
        section("promise 20");
        sentence("A reader reads: 1 if it gets something, else 0.");
        run(allKinds(4), "begin()=1 read(0..6)=0 of(0..6,8)=0", post(0, 0, 0, 7, 3), "read(4|5)=0 read(0..3)=1",
            "read(5|6)=1 read(4)=1 of(0..6,8)=1 got(0..6,0)=0 got(0..6,1)=0 got(0..6,2)=7 got(0..6,3)=3 got(0..6,4)=0",
            "read(0..6)=0 of(0..6,8)=1");
        run(sixteen(2), "begin()=1 read(0|15)=0", post(0, 0, 0, 0, 0), "read(0|15)=1 read(0|15)=0");

        sentence("STATE: the post has not begun.");
        run(allKinds(1), "read(0..6)=STATE of(0..6,8)=0 begin()=1 read(0..6)=0");

        sentence("FOUND: BEYOND: there is no such reader;");
        run(allKinds(1), "begin()=1 found(0)=0 read(" + NONE_OF_SEVEN + ")=FOUND found(0)=2 found(2)=6");
        run("begin()=1 read(0)=FOUND found(0)=2 found(2)=1");
        run(sixteen(2), "begin()=1 read(-1|16)=FOUND found(2)=2 read(0|15)=0 found(2)=2");

        firstNamed();
        // STATE ahead of BEYOND.
        run("read(0)=STATE ring(1)=0 reader(2,0,0)=0 read(1|-1|16)=STATE found(0)=0");
    }

    private void readMissing() {
        sentence("MISSING: it is a SEES, WAITS, MISSES, GATE or ECHO, and its ring is GIVEN.");
        run(allKinds(2), "begin()=1 give(0)=1", each(0, 2, "found(1)=# read(#)=FOUND found(0)=1"), "found(1)=3",
            "read(3|4)=0 found(1)=3 read(5)=FOUND found(1)=4 read(6)=FOUND found(1)=5 read(0)=FOUND found(1)=6",
            "found(2..6)=0 of(0..6,8)=0");
        // With claims that were published; a FOLDS and a MERGE get what there is.
        run("ring(2*2)=0|1 reader(1,0,0)=0 reader(4,0,0)=1 reader(5,0,1)=2 begin()=1", post(0, 0, 0, 0, 8),
            post(1, 0, 1, 0, 9),
            "read(2)=1 got(2,0)=0 read(2)=0 give(0)=1 read(0)=FOUND read(1)=1 got(1,3)=8 read(2)=1 got(2,0)=1",
            "read(1)=0 read(2)=1 read(2)=0 found(1)=1");
        // A ring that is CLOSED is there; a TARGET that is GIVEN is no row of its own ring.
        run(allKinds(2), "begin()=1", post(0, 0, 0, 0, 0), "close(0)=1 read(0|1|2|5)=1 found(0)=0");
        run("ring(2*2)=0|1 reader(7,0,1)=0 begin()=1", post(0, 0, 0, 0, 0), "give(1)=1 read(0)=0 found(0)=0");
        // Another ring is GIVEN.
        run("ring(2*2)=0|1 reader(1..3,0,0)=0..2 begin()=1", post(0, 0, 0, 0, 0), "give(1)=1 read(0..2)=1 found(0)=0");
    }

    private void round() {
        section("promise 21");
        sentence("Each reader reads, in order, as by read(): how many got something.");
        run("begin()=1 round()=0");
        run(allKinds(4), "begin()=1 round()=0", post(0, 0, 0, 0, 0), "round()=6 of(0..6,8)=1|1|1|1|0|1|1 round()=1",
            "of(4,8)=1 round()=0");
        // In order: the GATE 0 reads ahead of what it NAMES, the GATE 2 behind it.
        run("ring(4*2)=0|1 reader(7,0,1)=0 reader(2,0,0)=1 reader(6,0,1)=2 name(0,1)=1 begin()=1", post(0, 0, 0, 0, 0),
            "round()=2 got(0..2,1)=-1|0|0 round()=1 got(0,1)=0");
        // A reader of the TARGET ahead of the ECHO, and one behind it.
        run("ring(4*2)=0|1 reader(2,1,0)=0 reader(7,0,1)=1 reader(2,1,0)=2 begin()=1", post(0, 0, 0, 0, 0),
            "round()=2 got(0..2,0)=-1|0|1 round()=1 got(0,0)=1");
        // All of 16, and each one once though there is more for it.
        run("ring(4)=0 reader(2*16,0,0)=0..15 begin()=1", post(0, 0, 2, 0, 0), "round()=16 of(0..15,8)=1 round()=16",
            "round()=16 round()=0");
        // As by read(): of a ring that is GIVEN each one is a FINDING, and a MISSES misses.
        run(allKinds(2), "begin()=1 give(0)=1 round()=0 found(0)=1 found(1)=5 round()=0 found(1)=10 found(2..6)=0");
        run("ring(2*2)=0|1 reader(3,0,0)=0 reader(2,1,0)=1 begin()=1", post(0, 0, 0, 0, 0), post(1, 0, 0, 0, 0),
            "give(0)=1 round()=1 of(0,2..5)=1|1|0|0 got(1,0)=1 found(1)=1");

        sentence("STATE: the post has not begun.");
        run("round()=STATE ring(1)=0 reader(2,0,0)=0 round()=STATE begin()=1 round()=0");
    }

    private void got() {
        section("promise 22");
        sentence("Of what a reader got: what = 0 ring, 1 number of the claim, 2 STAMP, 3 KEY, 4 LENGTH;");
        run("ring(4*8)=0..7 reader(2,7,0)=0 reader(2*14,0,0)=1..14 reader(2,0,0)=15 begin()=1 batch(7,-6,2)=0",
            "publish(7,0,31,8)=1 publish(7,1,0,0)=1 read(0)=1 got(0,0..4)=7|0|-6|31|8 read(0)=1 got(0,0..4)=7|1|-6|0|0",
            "claim(0,MAX)=0 publish(0,0,15,4)=1 read(15)=1 got(15,0..1)=0 got(15,2)=MAX got(15,3..4)=15|4");
        run(begun(1, "2"), "claim(0,MIN)=0 publish(0,0,0,0)=1 read(0)=1 got(0,2)=MIN");

        sentence("-1 if it got nothing yet, there is no such reader, or another what.");
        run(allKinds(1), "got(0..6,-1..5)=-1 begin()=1 got(0..6,0..4)=-1 claim(0,0)=0 read(1)=0 got(1,0..4)=-1",
            "publish(0,0,5,5)=1 got(1,0..4)=-1 read(1)=1 got(1,MIN|-1|5|6|MAX)=-1 got(1,0..4)=0|0|0|5|5",
            "got(" + NONE_OF_SEVEN + ",0)=-1 found(0)=0");
        run(sixteen(2), "begin()=1", post(0, 0, 0, 3, 0), "read(0|15)=1 got(-1|16,2)=-1 got(0|15,2)=3");
        run("got(0|15,0..4)=-1 begin()=1 got(0|-1,0)=-1 found(0)=0");
    }

    private void word() {
        section("promise 23");
        sentence("Long i of what a reader got;");
        run(begun(2, "2"), "claim(0,0)=0", each(0, 7, "fill(0,0,#,-1#)=1"), "publish(0,0,0,0)=1 read(0)=1",
            "word(0,0..7)=-10|-11|-12|-13|-14|-15|-16|-17 claim(0,0)=1 fill(0,1,0,MIN)=1 fill(0,1,7,MAX)=1",
            "publish(0,1,0,8)=1 read(0)=1 word(0,0..7)=MIN|0|0|0|0|0|0|MAX");

        sentence("0 if it got nothing yet, or there is no such reader, or no such long.");
        run(allKinds(1), "word(0..6,0..7)=0 begin()=1 claim(0,0)=0 fill(0,0,0..7,5)=1 publish(0,0,0,0)=1",
            "word(0..6,0..7)=0 read(1)=1 word(1,0..7)=5 word(1,MIN|-1|8|9|MAX)=0 word(" + NONE_OF_SEVEN + ",0)=0",
            "word(0|2|3,0)=0 found(0)=0");
        run(sixteen(2), "begin()=1 claim(0,0)=0 fill(0,0,0..7,5)=1 publish(0,0,0,0)=1 read(0|15)=1 word(-1|16,0|7)=0",
            "word(0|15,0|7)=5");
        run("word(0,0)=0 word(15,7)=0 found(0)=0");
    }

    private void of() {
        section("promise 24");
        sentence("Of a reader: what = 0 its kind, 1 its ring (of a MERGE the first), 2 its PLACE there (-1 without),");
        run("ring(4*8)=0..7 reader(1..4,7,0)=0..3 reader(5,7,2)=4 reader(6,7,1)=5 reader(7,7,0)=6 join(4,0)=1",
            "of(0..6,0)=1..7 of(0..6,1)=7 of(0..6,2)=-1|0|0|-1|0|0|0 begin()=1", post(7, 0, 1, 0, 0), "read(1*2)=1",
            "read(2)=1 read(5|6)=1 of(0..6,2)=-1|2|1|-1|0|1|1",
            // Of a MERGE the PLACE in its first ring, and not in another one.
            post(2, 0, 0, -5, 0), "read(4)=1 got(4,0)=2 of(4,1..2)=7|0 place(4,2)=1 close(2)=1 read(4)=1 got(4,0)=0",
            "of(4,2)=0 close(0)=1 read(4)=1 of(4,2)=1");
        run("ring(4*2)=0|1 reader(5,0,1)=0 reader(5,1,0)=1 of(0|1,1)=0|1");

        sentence("6 how many ENTRIES it has, 7 how many it NAMES, 8 how many it got.");
        run(allKinds(4), "of(0..6,6)=0 of(0..6,7)=0|0|0|0|0|1|0 of(0..6,8)=0 name(6,1)=1 name(6,2)=1 of(6,7)=2",
            "begin()=1",
            each(0, 2, "claim(0,0)=# publish(0,#,#,0)=1"), "of(0..6,6)=0|0|0|3|0|0|0 read(3)=1 of(3,6)=2 of(3,8)=1",
            "read(1*3)=1 of(1,8)=3 read(1)=0 of(1,8)=3 read(0)=1 of(0,8)=1 read(5)=1 of(5,7..8)=1|1 of(6,7..8)=2|0");
        run(begun(1, "4"), each(0, 31, "claim(0,0)=# publish(0,#,#,0)=1 of(0,6)=#+1"), "claim(0,0)=32",
            "publish(0,32,0,0)=1 of(0,6)=32");
    }

    private void ofMissed() {
        sentence("3 how many claims it MISSED in all, 4 and 5 the first and last one of its latest SPAN (-1 without),");
        run(allKinds(1), "of(0..6,3)=0 of(0..6,4..5)=-1");
        run(begun(1, "1..4"), post(0, 0, 0, 0, 0), "read(0..3)=1", post(0, 1, 1, 0, 1), "read(0..3)=1 of(0..3,3)=0",
            "of(0..3,4..5)=-1");
        run(begun(1, "1|3|4"), post(0, 0, 4, 0, 0), "of(1,3..5)=0|-1|-1 read(0..2)=1 of(1,3..5)=4|0|3",
            "of(0|2,3..5)=0|-1|-1|0|-1|-1",
            post(0, 5, 5, 0, 0), "read(1)=1 of(1,3..5)=4|0|3", post(0, 6, 7, 0, 0), "of(1,3..5)=4|0|3 read(1)=1",
            "of(1,3..5)=5|6|6 read(1)=0 of(1,3..5)=5|6|6", post(0, 8, 8, 0, 0), "give(0)=1 read(1)=FOUND",
            "of(1,3..5)=6|8|8 read(1)=FOUND of(1,3..5)=6|8|8");
    }

    private void ofRefusals() {
        sentence("NUMBER: another what.");
        run(allKinds(1), "of(0..6,MIN|-1|9|10|MAX)=NUMBER found(0)=0 of(0,0|8)=1|0");

        sentence("FOUND: BEYOND: there is no such reader.");
        run("of(0,0..8)=FOUND found(0)=2 found(2)=9", allKinds(1), "of(" + NONE_OF_SEVEN + ",0|8)=FOUND found(2)=21");
        run(sixteen(2), "of(-1|16,0)=FOUND found(2)=2 of(0|15,0)=2");

        firstNamed();
        // NUMBER ahead of BEYOND.
        run("of(0,9|-1)=NUMBER", allKinds(1), "of(7|-1|16,9|-1)=NUMBER found(0)=0");
    }

    private void place() {
        section("promise 25");
        sentence("The PLACE of a reader in a ring;");
        run("ring(4*8)=0..7 reader(2,0,0)=0 reader(5,7,0)=1 reader(2*13,7,0)=2..14 reader(3,7,0)=15",
            "place(0|1|15,0|7)=0|-1|0|0|-1|0 begin()=1",
            post(0, 0, 2, 3, 0), post(7, 0, 0, 5, 0), "read(0*2)=1 place(0,0)=2 read(1)=1 place(1,0|7)=1|0 read(1*2)=1",
            "place(1,0|7)=3|0 close(0)=1 read(1)=1 place(1,0|7)=3|1 read(15)=1 place(15,7)=1");
        // A PLACE stays though the ring is CLOSED or GIVEN.
        run(begun(2, "2"), post(0, 0, 0, 0, 0), "read(0)=1 close(0)=1 place(0,0)=1 give(0)=1 place(0,0)=1");

        sentence("-1 if it has none there, or one of them isn't there.");
        run("ring(4*3)=0..2 reader(1..7,0,1)=0..6 place(0|3,0)=-1 place(0..3|5|6,1..2)=-1 place(4,2)=-1",
            "place(1|2|4..6,0)=0 place(0..6,MIN|-1|3|7|8|MAX)=-1 place(" + NONE_OF_SEVEN + ",0)=-1 found(0)=0");
        run("place(0,0)=-1 ring(1)=0 place(0,0)=-1 place(-1|16,-1|8)=-1 found(0)=0");
        run("ring(1*8)=0..7 reader(2*16,7,0)=0..15 place(0|15,-1|8)=-1 place(-1|16,7)=-1 place(0|15,7)=0");
    }

    private void named() {
        section("promise 26");
        sentence("The i-th reader (from 0 on, in the order in which they were told) that a GATE or ECHO NAMES;");
        run("ring(1*2)=0|1 reader(2*5,0,0)=0..4 reader(6,0,3)=5 reader(7,0,1)=6 name(5,1)=1 name(5,4)=1 name(5,0)=1",
            "named(5,0..3)=3|1|4|0 name(6,5)=1 name(6,0)=1 name(6,4)=1 name(6,2)=1 named(6,0..3)=5|0|4|2 begin()=1",
            "named(5|6,0..3)=3|1|4|0|5|0|4|2");
        run("ring(1*2)=0|1 reader(7,0,1)=0 reader(2*14,0,0)=1..14 reader(6,0,0)=15 name(0,14)=1 named(0|15,0)=14|0");

        sentence("-1 if there is none such.");
        run("ring(1*2)=0|1 reader(2*5,0,0)=0..4 reader(6,0,3)=5 reader(7,0,1)=6 named(5,MIN|-1|1|2|3|4|MAX)=-1",
            "named(6,MIN|-1|0|3|4|MAX)=-1 name(6,0..3)=1 named(6,MIN|-1|4|5|MAX)=-1 named(6,0|3)=0|3 found(0)=0");

        sentence("FOUND: BEYOND: there is no such reader;");
        run(allKinds(1), "named(" + NONE_OF_SEVEN + ",0)=FOUND found(0)=2 found(2)=6 named(7,-1|9)=FOUND found(2)=8",
            "found(4)=0");
        run("named(0,0)=FOUND found(0)=2 ring(1*2)=0|1 reader(7*16,0,1)=0..15 named(-1|16,0)=FOUND found(2)=3",
            "named(0|15,0)=-1");

        sentence("CAST: it is of another kind.");
        run(allKinds(1), "named(0..4,0)=FOUND found(0)=4 found(4)=5 named(0,-1|4)=FOUND found(4)=7 named(5|6,0)=1|-1",
            "found(4)=7 found(2)=0");
    }

    private void entry() {
        section("promise 27");
        sentence("The KEY of ENTRY i of a FOLDS;");
        run(begun(4, "4"), each(0, 2, "claim(0,0)=#"), "publish(0,0,31,0)=1 publish(0,1,0,0)=1 publish(0,2,7,0)=1",
            "entry(0,0..2)=31|0|7 read(0)=1 entry(0,0..1)=0|7");
        run(begun(1, "4"), each(0, 31, "claim(0,0)=# publish(0,#,#,0)=1 entry(0,#)=#"), "entry(0,0..31)=0..31");
        run("ring(2)=0 reader(4*16,0,0)=0..15 begin()=1", post(0, 0, 0, 0, 9), "entry(0|15,0)=9 read(15)=1",
            "entry(0|15,0)=9|-1");

        sentence("-1 if there is none such.");
        run(begun(4, "4"), "entry(0,MIN|-1|0|1|31|32|MAX)=-1", post(0, 0, 0, 0, 3), "entry(0,MIN|-1|1|31|32|MAX)=-1",
            "read(0)=1 entry(0,0)=-1 found(0)=0");
        run(begun(1, "4"), each(0, 31, "claim(0,0)=# publish(0,#,#,0)=1"), "entry(0,MIN|-1|32|33|MAX)=-1",
            "entry(0,31)=31 read(0)=1 entry(0,30..31)=31|-1 found(0)=0");

        sentence("FOUND: BEYOND: there is no such reader;");
        run(allKinds(1), "entry(" + NONE_OF_SEVEN + ",0)=FOUND found(0)=2 found(2)=6 entry(7,-1|32)=FOUND found(2)=8",
            "found(4)=0");
        run("entry(0,0)=FOUND found(0)=2 ring(1)=0 reader(4*16,0,0)=0..15 entry(-1|16,0)=FOUND found(2)=3",
            "entry(0|15,0)=-1");

        sentence("CAST: it is of another kind.");
        run(allKinds(1), "entry(0..2|4..6,0)=FOUND found(0)=4 found(4)=6 entry(0,-1|32)=FOUND found(4)=8 entry(3,0)=-1",
            "found(4)=8 found(2)=0");
    }

    private void target() {
        section("promise 28");
        sentence("The TARGET of an ECHO.");
        run("ring(1*8)=0..7 reader(7,3,0)=0 reader(7,0,7)=1 reader(7*14,7,5)=2..15 target(0|1|15)=0|7|5 begin()=1",
            "give(0)=1 target(0)=0 found(0)=0");

        sentence("FOUND: BEYOND: there is no such reader;");
        run(allKinds(1), "target(" + NONE_OF_SEVEN + ")=FOUND found(0)=2 found(2)=6 found(4)=0");
        run("target(0)=FOUND found(0)=2 ring(1*2)=0|1 reader(7*16,0,1)=0..15 target(-1|16)=FOUND found(2)=3",
            "target(0|15)=1");

        sentence("CAST: it is of another kind.");
        run(allKinds(1), "target(0..5)=FOUND found(0)=4 found(4)=6 target(6)=1 found(4)=6 found(2)=0");
    }

    private void whyReadyOrGiven() {
        section("promise 29");
        sentence("Why a reader isn't READY: 0 it is;");
        run(allKinds(4), "begin()=1", post(0, 0, 0, 0, 0), "why(0..3|6)=0 read(0..3|6)=1 why(4|5)=0 read(4|5)=1",
            "why(0..3|5|6)=2 why(4)=7");
        run(sixteen(2), "begin()=1", post(0, 0, 0, 0, 0), "why(0|15)=0 read(0|15)=1 why(0|15)=2");

        sentence("else the first of these: 1 its ring is GIVEN (SEES, WAITS, MISSES, GATE, ECHO),");
        // Ahead of 2 and 5; a FOLDS and a MERGE have other reasons, or none.
        run(allKinds(2), "begin()=1 give(0)=1 why(0..2|5|6)=1 why(3)=2 why(4)=7 give(1)=1 why(0..2|5|6)=1 why(4)=6");
        run("ring(2*2)=0|1 reader(1|3|4,0,0)=0..2 reader(5,0,1)=3 begin()=1", post(1, 0, 0, 0, 0), "give(0)=1",
            "why(0..3)=1|1|2|0");
        run(begun(2, "1|3|4"), post(0, 0, 0, 0, 0), "give(0)=1 why(0..2)=1|1|0 read(2)=1 why(2)=2");
        // CLOSED is no reason.
        run(begun(2, "1..3"), post(0, 0, 0, 0, 0), "close(0)=1 why(0..2)=0 read(0..2)=1 why(0..2)=2");
    }

    private void whyNothing() {
        sentence("2 there is nothing (new) that was claimed (or to be seen, or an ENTRY),");
        run(allKinds(4), "begin()=1 why(0..3|5|6)=2", post(0, 0, 0, 0, 0), "read(0..3)=1 read(5|6)=1 why(0..3|5|6)=2");
        // To be seen: a claim that is OPEN, or older than what it got, is nothing for a SEES; nor is it an ENTRY.
        run(begun(4, "1|4"), "batch(0,0,3)=0 why(0|1)=2 publish(0,1,0,0)=1 why(0|1)=0 read(0|1)=1 why(0|1)=2",
            "publish(0,0,0,0)=1 why(0|1)=2|0 publish(0,2,0,0)=1 why(0|1)=0");
        // To be seen: the only one that was PUBLISHED is LOST.
        run(begun(1, "1"), post(0, 0, 0, 0, 0), "why(0)=0 claim(0,0)=1 why(0)=2");
        // Ahead of 4 and 5: nothing was claimed, though one that it NAMES did not read it and the TARGET is CLOSED.
        run("ring(4*2)=0|1 reader(2,0,0)=0 reader(6,0,0)=1 reader(7,0,1)=2 name(2,0)=1 begin()=1 close(1)=1",
            "why(1|2)=2");
    }

    private void whyOpen() {
        sentence("3 the claim is OPEN,");
        run("ring(4*2)=0|1 reader(2|3,0,0)=0|1 reader(6,0,0)=2 reader(7,0,1)=3 name(3,0)=1 begin()=1 batch(0,0,2)=0",
            "why(0..3)=3",
            // The claim at its PLACE, not another one; ahead of 4 and 5.
            "publish(0,1,0,0)=1 why(0..3)=3 close(1)=1 why(3)=3 publish(0,0,0,0)=1 why(0..3)=0|0|4|4 read(0|1)=1",
            "why(0|1)=0");
        run(begun(1, "2|3"), post(0, 0, 0, 0, 0), "read(0|1)=1 claim(0,0)=1 why(0|1)=3 publish(0,1,0,0)=1 why(0|1)=0");
    }

    private void whyNamed() {
        sentence("4 one that it NAMES did not read it,");
        run("ring(4*2)=0|1 reader(2*2,0,0)=0|1 reader(6,0,0)=2 name(2,1)=1 reader(7,0,1)=3 name(3,2)=1 begin()=1",
            post(0, 0, 1, 0, 0),
            "why(2|3)=4 read(0)=1 why(2)=4 read(1)=1 why(2|3)=0|4 read(2)=1 why(2|3)=4|0 read(0)=1 why(2)=4 read(1)=1",
            "why(2|3)=0 read(2|3)=1 why(2)=2 why(3)=0 read(3)=1 why(3)=2");
        // Ahead of 5.
        run("ring(4*2)=0|1 reader(2,0,0)=0 reader(7,0,1)=1 name(1,0)=1 begin()=1", post(0, 0, 0, 0, 0), "close(1)=1",
            "why(1)=4 read(0)=1 why(1)=5");
    }

    private void whyTarget() {
        sentence("5 its TARGET is GIVEN or CLOSED, or a claim there is HELD UP,");
        run("ring(4*2)=0|1 reader(7,0,1)=0 begin()=1", post(0, 0, 0, 0, 0), "why(0)=0 close(1)=1 why(0)=5 give(1)=1",
            "why(0)=5 read(0)=0");
        run("ring(4*2)=0|1 reader(7,0,1)=0 begin()=1", post(0, 0, 0, 0, 0), "give(1)=1 why(0)=5");
        run("ring(4)=0 ring(2)=1 reader(7,0,1)=0 reader(2,1,0)=1 begin()=1", post(0, 0, 0, 0, 0), "claim(1,0)=0",
            "why(0)=0 claim(1,0)=1 why(0)=5 publish(1,0,0,0)=1 why(0)=5 read(1)=1 why(0)=0 read(0)=1");
        // What is HELD UP in its own ring, or a GATE's other ring, is no reason.
        run("ring(1*2)=0|1 reader(7,0,1)=0 reader(3,0,0)=1 reader(6,0,1)=2 begin()=1 claim(1,0)=0", post(0, 0, 0, 0, 0),
            "told(0|1,5)=1 why(0..2)=5|0|4 read(1)=1 why(2)=0");
    }

    private void whyMerge() {
        sentence("6 MERGE: all its rings are passed over,");
        run("ring(4*2)=0|1 reader(5,0,1)=0 begin()=1 close(0)=1 why(0)=7 close(1)=1 why(0)=6 give(0)=1 why(0)=6",
            "give(1)=1 why(0)=6");
        run("ring(4*4)=0..3 reader(5,0,1)=0 join(0,2|3)=1 begin()=1", post(3, 0, 0, 0, 0), "give(0|1)=1 close(2|3)=1",
            "why(0)=0 read(0)=1 why(0)=6");

        sentence("7 MERGE: one of the others has no claim PLACE that is PUBLISHED.");
        run("ring(4*3)=0..2 reader(5,0,1)=0 join(0,2)=1 begin()=1 why(0)=7", post(0, 0, 0, 0, 0), "why(0)=7",
            post(2, 0, 0, 0, 0), "why(0)=7 claim(1,0)=0 why(0)=7 publish(1,0,0,0)=1 why(0)=0 read(0)=1 why(0)=7",
            "close(0)=1 why(0)=0 read(0)=1 why(0)=7 give(1)=1 why(0)=0 read(0)=1 why(0)=7 close(2)=1 why(0)=6");
        // One that is CLOSED has a claim that is OPEN; one behind it is PUBLISHED.
        run("ring(4*2)=0|1 reader(5,0,1)=0 begin()=1", post(1, 0, 0, 0, 0), "batch(0,0,2)=0 publish(0,1,0,0)=1",
            "close(0)=1 why(0)=7 publish(0,0,0,0)=1 why(0)=0");
    }

    private void whyMisses() {
        sentence("(Of MISSES the claim at the PLACE that it would have.)");
        // 0 is LOST: it would come to 1, which is PUBLISHED, or OPEN, or to 2, which isn't made.
        run(begun(2, "3"), post(0, 0, 2, 0, 0), "why(0)=0 of(0,2..3)=0|0 read(0)=1 got(0,1)=1");
        run(begun(2, "3"), post(0, 0, 0, 0, 0), "batch(0,0,2)=1 why(0)=3 on(0)=1 publish(0,2,0,0)=1 why(0)=3 on(0)=1",
            "of(0,2..3)=0|0 publish(0,1,0,0)=1 why(0)=0 on(0)=-1");
        run(begun(1, "3"), post(0, 0, 4, 0, 0), "claim(0,0)=5 why(0)=3 on(0)=5 read(0)=0 why(0)=3 on(0)=5",
            "of(0,2..5)=5|5|0|4");
        // n - SLOTS is PLACE itself: claim PLACE.
        run(begun(2, "3"), "batch(0,0,2)=0 why(0)=3 on(0)=0 publish(0,0,0,0)=1 why(0)=0 read(0)=1 why(0)=3 on(0)=1");
        // Of a ring that is GIVEN asking misses nothing.
        run(begun(2, "3"), post(0, 0, 2, 0, 0), "give(0)=1 why(0)=1 on(0)=-1 of(0,2..5)=0|0|-1|-1");
    }

    private void whyRefusals() {
        sentence("STATE: the post has not begun;");
        run(allKinds(1), "why(0..6)=STATE begin()=1 why(0)=2");

        sentence("NUMBER: there is no such reader.");
        run(allKinds(1), "begin()=1 why(" + NONE_OF_SEVEN + ")=NUMBER found(0)=0");
        run(sixteen(2), "begin()=1 why(-1|16)=NUMBER why(0|15)=2");

        firstNamed();
        // STATE ahead of NUMBER.
        run("why(0)=STATE", allKinds(1), "why(7|-1)=STATE");
    }

    private void on() {
        section("promise 30");
        sentence("On what a reader waits, by why(): 3 the number of the claim,");
        run(begun(4, "2|3"), "batch(0,0,3)=0 why(0|1)=3 on(0|1)=0 publish(0,0,0,0)=1 read(0|1)=1 on(0|1)=1",
            "publish(0,1,0,0)=1 read(0)=1 on(0)=2 on(1)=-1");
        run(begun(1, "2"), post(0, 0, 0, 0, 0), "read(0)=1",
            each(1, 9, "claim(0,0)=# on(0)=# publish(0,#,0,0)=1 read(0)=1"));
        run("ring(4*2)=0|1 reader(2,0,0)=0 reader(6,0,0)=1 reader(7,0,1)=2 begin()=1 claim(0,0)=0 on(0..2)=0");

        sentence("4 the least one that it NAMES and that did not read it,");
        // They are named in another order; the least one of those that did not read.
        run("ring(4*2)=0|1 reader(2*4,0,0)=0..3 reader(6,0,3)=4 name(4,1)=1 name(4,0)=1 name(4,2)=1 reader(7,0,1)=5",
            "name(5,4)=1 name(5,3)=1 begin()=1", post(0, 0, 1, 0, 0), "on(4|5)=0|3 read(0)=1 on(4)=1 read(2)=1 on(4)=1",
            "read(1)=1 on(4)=3 read(3)=1 why(4)=0 on(4|5)=-1|4 read(4)=1 on(4|5)=0|-1 read(1..3)=1 on(4)=0 read(0)=1",
            "on(4)=-1");
        run("ring(4*2)=0|1 reader(7,0,1)=0 reader(2*14,0,0)=1..14 reader(3,0,0)=15 name(0,15)=1 name(0,14)=1 begin()=1",
            post(0, 0, 0, 0, 0),
            "on(0)=14 read(14)=1 on(0)=15 read(15)=1 why(0)=0 on(0)=-1");

        sentence("5 its TARGET,");
        run("ring(4*8)=0..7 reader(7,3,0)=0 reader(7,3,7)=1 begin()=1", post(3, 0, 0, 0, 0), "close(0|7)=1 why(0|1)=5",
            "on(0|1)=0|7 give(0|7)=1 why(0|1)=5 on(0|1)=0|7");
        run("ring(1*3)=0..2 reader(7,0,2)=0 begin()=1 claim(2,0)=0", post(0, 0, 0, 0, 0), "why(0)=5 on(0)=2",
            "publish(2,0,0,0)=1 why(0)=0 on(0)=-1");

        sentence("7 the least such ring;");
        run("ring(4*8)=0..7 reader(5,7,4)=0 join(0,2)=1 join(0,0)=1 begin()=1 on(0)=0 close(0)=1 on(0)=2 claim(2,0)=0",
            "on(0)=2 publish(2,0,0,0)=1 on(0)=4 give(4)=1 on(0)=7", post(7, 0, 0, 0, 0), "why(0)=0 on(0)=-1 read(0)=1",
            "got(0,0)=2 on(0)=2");
    }

    private void onInOtherCases() {
        sentence("-1 in all other cases.");
        // READY, 1, 2 and 6; ahead of the beginning; and no such reader.
        run(allKinds(4), "on(0..6)=-1 begin()=1 on(0..3|5|6)=-1", post(0, 0, 0, 0, 0), "why(0..3|6)=0 on(0..3|6)=-1");
        run(allKinds(4), "begin()=1 give(0)=1 on(0..3|5|6)=-1 give(1)=1 why(4)=6 on(4)=-1 on(" + NONE_OF_SEVEN + ")=-1",
            "found(0)=0");
        run("on(0)=-1 begin()=1 on(0|-1|16)=-1 found(0)=0");
        run(sixteen(2), "begin()=1 claim(0,0)=0 on(0|15)=0 on(-1|16)=-1");
        // A SEES and a FOLDS wait on no claim though it is OPEN.
        run(begun(4, "1|4"), "claim(0,0)=0 on(0|1)=-1");
    }

    private void stuck() {
        section("promise 31");
        sentence("Whether THE POST is STUCK.");
        // Asking changes nothing; the terms have the other cases.
        run(begun(2, "2"), "stuck()=0 batch(0,0,2)=0 stuck()=1 stuck()=1 publish(0,1,0,0)=1 stuck()=1",
            "publish(0,0,0,0)=1 stuck()=0 read(0)=1 stuck()=0 read(0)=1 stuck()=0");
        run(begun(1, "3"), post(0, 0, 1, 0, 0), "stuck()=0 of(0,2..3)=0|0");
        run("stuck()=0 ring(1)=0 stuck()=0 begin()=1 stuck()=0 claim(0,0)=0 stuck()=1 close(0)=1 stuck()=0");
    }

    private void found() {
        section("promise 32");
        sentence("What = 0 the latest FINDING (0 none yet), 1 .. 6 how many there were of each;");
        run("found(0..6)=0 ring(-1)=FOUND found(0..6)=3|0|0|1|0|0|0 ring(-1)=FOUND found(0..6)=3|0|0|2|0|0|0",
            "again()=FOUND found(0..6)=6|0|0|2|0|0|1 ring(1*2)=0|1 reader(2,0,0)=0 target(0)=FOUND",
            "found(0..6)=4|0|0|2|1|0|1 told(9,0)=FOUND found(0..6)=2|0|1|2|1|0|1 begin()=1 claim(1,0)=0",
            "copy(1,0,0,9,0)=FOUND found(0..6)=5|0|1|2|1|1|1 give(0)=1 read(0)=FOUND found(0..6)=1|1|1|2|1|1|1",
            "read(0)=FOUND found(0..6)=1|2|1|2|1|1|1",
            // Calls that find nothing, and other refusals, leave all of it.
            "read(0)=FOUND claim(1,-1)=FALLS claim(1,0)=HELD close(1)=1 found(0..6)=1|3|1|2|1|1|1");
        // Many of one.
        run(each(1, 200, "ring(-1)=FOUND"), "found(3)=200 found(0)=3");

        sentence("-1 for another what.");
        run("found(MIN|-1|7|8|MAX)=-1 ring(-1)=FOUND found(MIN|-1|7|8|MAX)=-1 found(0|6)=3|0");
    }
}
