/** What the document says of its use and under "Terms", sentence by sentence. */
final class TermsSentences extends Sentences {
    private static final int[] SLOTS = {1, 2, 4, 8, 16, 32, 64};

    TermsSentences(Checks checks, Document document) {
        super(checks, document);
    }

    @Override
    void all() {
        section("what it is");
        use();
        section("terms");
        beginning();
        rings();
        claims();
        lostClaims();
        readers();
        places();
        holdersAndNames();
        whatIsKept();
        sees();
        waits();
        misses();
        missesOfGiven();
        gate();
        echo();
        echoWritesOn();
        merge();
        folds();
        heldUp();
        by();
        ready();
        stuck();
        findings();
        refusedAhead();
        refusedWriters();
        refusedReaders();
        firstRefusal();
        constants();
        endSentence();
    }

    private void use() {
        sentence("An object is used for at most 512 calls after it has been made; what later calls answer is free.");
        // The 512th call is still answered as it is due.
        run("ring(1)=0 reader(2,0,0)=0 reader(3,0,0)=1 begin()=1 made()=4",
            each(0, 168, "claim(0,#)=# publish(0,#,0,0)=1 read(0)=1"));
        // As many claims as calls can make, by an ECHO too: PLACES and CLAIMED go on beyond 64 and 256.
        run("ring(64*2)=0|1 reader(7,0,1)=0 reader(3,1,0)=1 begin()=1",
            each(0, 166, "claim(0,#)=# publish(0,#,0,0)=1 round()=2"), "got(1,1)=166 place(0,0)=167 told(1,1)=167");
    }

    private void beginning() {
        sentence("A claim is refused exactly where a reader would lose what it waits for");
        run(begun(2, "2"), "batch(0,0,2)=0 publish(0,0|1,0,0)=1 claim(0,0)=HELD read(0)=1 claim(0,0)=2 claim(0,0)=HELD",
            "read(0)=1 publish(0,2,0,0)=1 claim(0,0)=3 claim(0,0)=HELD");
        // Nobody waits where there are but SEES, MISSES and FOLDS.
        run(begun(2, "1|3|4"), post(0, 0, 9, 0, 0));

        sentence("what was missed is told");
        run(begun(1, "3"), post(0, 0, 2, 0, 0), "read(0)=1 got(0,1)=2 of(0,3..5)=2|0|1");

        sentence("and nothing is made once the post has begun.");
        run(allKinds(2), "made()=45 begin()=1 made()=45 ring(1)=STATE reader(1..7,0,1)=STATE join(4,1)=STATE",
            "batch(0,0,2)=0 fill(0,0,0,1)=1 publish(0,0,0,0)=1 publish(0,1,1,0)=1 round()=6 round()=6 close(1)=1",
            "made()=45");
    }

    private void rings() {
        sentence("RINGS are numbered 0 .. 7, as they are made.");
        run(each(0, 7, "ring(1)=#"), "ring(1)=FULL told(0..7,0)=1 told(MIN|-1|8|MAX,0)=FOUND");
        run("ring(2)=0 told(0,0)=2 told(1,0)=FOUND ring(4)=1 told(1,0)=4 told(2,0)=FOUND");

        sentence("A ring has SLOTS (1, 2, 4, .. 64).");
        run("ring(1|2|4|8|16|32|64)=0..6 told(0..6,0)=1|2|4|8|16|32|64",
            "ring(0|3|5..7|9..15|17..31|33..63|65..129|256|1073741824|MAX)=NUMBER ring(MIN|-1)=FOUND");
    }

    private void claims() {
        sentence("Its CLAIMS are numbered 0, 1, .. as they are made; CLAIMED is how many there were.");
        run("ring(8*2)=0|1 begin()=1 told(0|1,1)=0 claim(0,0)=0 claim(1,0)=0 claim(0,0)=1 told(0|1,1)=2|1",
            "batch(0,0,3)=2 told(0,1)=5 claim(0,0)=5 claim(0,-1)=FALLS told(0,1)=6 batch(1,0,7)=1 told(1,1)=8");
        run(begun(1, "1"), "told(0,1)=0", each(0, 99, "claim(0,0)=# publish(0,#,0,0)=1"), "told(0,1)=100");

        sentence("A claim has a STAMP, a KEY, a LENGTH and 8 longs (all 0 when it is made)");
        run(begun(1, "2"), "claim(0,-7)=0", each(0, 7, "fill(0,0,#,10#)=1"), "publish(0,0,31,8)=1 read(0)=1",
            "got(0,2..4)=-7|31|8 word(0,0..7)=100..107",
            // The slot is used again; nothing of the claim before is left in it.
            "claim(0,-7)=1 publish(0,1,0,0)=1 read(0)=1 got(0,2..4)=-7|0|0 word(0,0..7)=0");
        run(begun(2, "2"), "batch(0,1,2)=0 fill(0,0|1,0..7,9)=1 publish(0,0|1,5,5)=1 read(0|0)=1 batch(0,2,2)=2",
            "publish(0,2|3,0,0)=1 read(0)=1 word(0,0..7)=0 got(0,2)=2 read(0)=1 word(0,0..7)=0 got(0,2)=2");

        sentence("it is OPEN until it is PUBLISHED.");
        run(begun(2, "2"), "claim(0,0)=0 told(0,2)=1 fill(0,0,0,1)=1 copy(0,0,0,0,1)=1 told(0,2)=1 claim(0,0)=1",
            "told(0,2)=2 publish(0,0,0,0)=1 told(0,2)=1 fill(0,0,0,1)=NOT copy(0,0,0,0,1)=NOT publish(0,0,0,0)=NOT",
            "fill(0,1,0,1)=1 publish(0,1,0,0)=1 told(0,2)=0 publish(0,1,0,0)=NOT");

        sentence("LAST is the STAMP of the latest claim; none is below it.");
        run(begun(8, "1"), "claim(0,MIN)=0 last(0)=MIN claim(0,-5)=1 last(0)=-5 claim(0,-6)=FALLS last(0)=-5",
            "claim(0,-5)=2 batch(0,7,2)=3 last(0)=7 batch(0,6,1)=FALLS last(0)=7 claim(0,MAX)=5 last(0)=MAX",
            "claim(0,9223372036854775806)=FALLS claim(0,MAX)=6");
        run("ring(4*2)=0|1 reader(7,0,1)=0 begin()=1 claim(1,9)=0 claim(0,8)=0 publish(0,0,0,0)=1 read(0)=1",
            "told(1,1)=2 last(1)=9 last(0)=8");

        sentence("A ring may be CLOSED; then nothing is claimed in it any more.");
        run("ring(4*2)=0|1 reader(7,0,1)=0 begin()=1", post(0, 0, 1, 0, 0), "read(0)=1 told(1,1)=1 close(1)=1",
            "claim(1,5)=CLOSED batch(1,5,1)=CLOSED read(0)=0 told(1,1)=1 last(1)=0 claim(0,0)=2");
    }

    private void lostClaims() {
        sentence("Claim q is LOST as soon as claim q + SLOTS is made, or the ring is GIVEN back.");
        for (int slots : SLOTS) {
            run(begun(slots, "1|3"), "batch(0,0," + slots + ")=0 publish(0,0,5,0)=1 why(0|1)=0",
                "claim(0,0)=" + slots + " why(0)=2 read(0)=0 got(0,1)=-1 why(1)=3 on(1)=1 read(1)=0 of(1,3..5)=1|0|0");
            // With one claim less it is there yet.
            run(begun(slots, "1|3"), "batch(0,0," + slots + ")=0 publish(0,0,5,0)=1 read(0|1)=1 got(0|1,1)=0",
                "of(1,3)=0");
        }
        run(begun(2, "1|3"), post(0, 0, 0, 0, 0), "why(0|1)=0 give(0)=1 why(0|1)=1 read(0)=FOUND got(0,1)=-1",
            "read(1)=FOUND got(1,1)=-1 of(1,3..5)=1|0|0 fill(0,0,0,0)=FOUND publish(0,0,0,0)=GIVEN");
    }

    private void readers() {
        sentence("READERS are numbered 0 .. 15, as they are made.");
        run("ring(1)=0", each(0, 15, "reader(2,0,0)=#"), "reader(2,0,0)=FULL of(0..15,0)=2 of(MIN|-1|16|MAX,0)=FOUND");

        sentence("Kinds: 1 SEES, 2 WAITS, 3 MISSES, 4 FOLDS, 5 MERGE, 6 GATE, 7 ECHO.");
        run(allKinds(1), "of(0..6,0)=1..7 reader(MIN|-1|0|8|MAX,0,1)=NUMBER named(0..4,0)=FOUND named(5,0)=1",
            "named(6,0)=-1 entry(0..2|4..6,0)=FOUND entry(3,0)=-1 target(0..5)=FOUND target(6)=1");
    }

    private void places() {
        sentence("WAITS, MISSES, GATE and ECHO have a PLACE in their ring, a MERGE in each of its one to four rings: "
            + "the number of the claim that it reads next, 0 at first.");
        run("ring(2*5)=0..4 reader(1..7,0,1)=0..6 join(4,2)=1 join(4,4)=1 place(0|3,0..4)=-1 place(1|2|5|6,0)=0",
            "place(1|2|5|6,1..4)=-1 place(4,0|1|2|4)=0 place(4,3)=-1 begin()=1",
            post(0, 0, 0, 0, 0), "read(1|2|5|6)=1 place(1|2|5|6,0)=1 place(1|2|5|6,1)=-1 close(2|4)=1",
            // Both of its other rings have a claim of stamp 0: ring 0, then (ring 0 is closed) ring 1.
            "read(4)=1 place(4,0|1|2|4)=1|0|0|0 close(0)=1 read(4)=1 place(4,0|1|2|4)=1|1|0|0 place(0|3,0)=-1");
    }

    private void holdersAndNames() {
        sentence("HOLDERS of a ring are its WAITS, GATES, ECHOES and those MERGES that have a PLACE there.");
        run("ring(2*3)=0..2 reader(1,0,1)=0 told(0,4)=0 reader(2,0,1)=1 told(0,4)=1 reader(3,0,1)=2 told(0,4)=1",
            "reader(4,0,1)=3 told(0,4)=1 reader(5,0,1)=4 told(0..2,4)=2|1|0 reader(6,0,1)=5 told(0,4)=3",
            "reader(7,0,1)=6 told(0..2,4)=4|1|0 join(4,2)=1 told(0..2,4)=4|1|1");
        for (int kind = 1; kind <= 7; kind++) {
            boolean holds = kind == 2 || kind >= 5;
            run("ring(1*2)=0|1 reader(3,0,0)=0 reader(" + kind + ",0," + (kind == 6 ? 0 : 1) + ")=1 begin()=1",
                post(0, 0, 0, 0, 0), holds ? "claim(0,0)=HELD by()=1 give(0)=HELD" : "claim(0,0)=1");
        }
        // A MERGE holds its second and its joined ring, too; an ECHO doesn't hold its TARGET.
        run("ring(1*3)=0..2 reader(5,0,1)=0 join(0,2)=1 begin()=1", post(1, 0, 0, 0, 0), post(2, 0, 0, 0, 0),
            "claim(1|2,0)=HELD");
        run("ring(1*2)=0|1 reader(7,0,1)=0 begin()=1", post(1, 0, 3, 0, 0), "give(1)=1");

        sentence("A GATE or an ECHO NAMES up to four readers that have a PLACE in its ring");
        run("ring(1*2)=0|1 reader(2*5,0,0)=0..4 reader(7,0,1)=5 of(5,7)=0 name(5,0..3)=1 of(5,7)=4 name(5,4)=FULL",
            "of(5,7)=4 named(5,0..4)=0|1|2|3|-1");
        run("ring(1)=0 reader(2*5,0,0)=0..4 reader(6,0,4)=5 of(5,7)=1 name(5,0..2)=1 of(5,7)=4 name(5,3)=FULL",
            "of(5,7)=4 named(5,0..4)=4|0|1|2|-1");
        run("ring(1*2)=0|1 reader(1|4,0,0)=0|1 reader(2,1,0)=2 reader(3,0,0)=3 reader(6,0,3)=4 name(4,0..2)=KIND",
            "reader(6,0,0..2)=KIND of(4,7)=1");

        sentence("an ECHO has a TARGET, another ring.");
        run("ring(1*8)=0..7 reader(7,0,7)=0 reader(7,7,0)=1 target(0|1)=7|0 reader(7,0,0|8|-1)=NUMBER");
    }

    private void whatIsKept() {
        sentence("What a reader GETS it keeps till it gets again: "
            + "ring, number of the claim, STAMP, KEY, LENGTH, 8 longs.");
        run(begun(1, "2"), "claim(0,-9)=0", each(0, 7, "fill(0,0,#,10#)=1"), "publish(0,0,31,8)=1 read(0)=1",
            // The slot has another claim by now.
            "claim(0,3)=1", each(0, 7, "fill(0,1,#,20#)=1"), "publish(0,1,4,2)=1 got(0,0..4)=0|0|-9|31|8",
            "word(0,0..7)=100..107 read(0)=1 got(0,0..4)=0|1|3|4|2 word(0,0..7)=200..207",
            // Neither reading nothing nor a refusal is getting.
            "read(0)=0 got(0,0..4)=0|1|3|4|2 give(0)=1 read(0)=FOUND got(0,0..4)=0|1|3|4|2 word(0,0..7)=200..207");
        // A FOLDS whose next ENTRY is of the same KEY.
        run(begun(4, "4"), "claim(0,1)=0 fill(0,0,0,11)=1 publish(0,0,1,1)=1 read(0)=1 claim(0,2)=1 fill(0,1,0,22)=1",
            "publish(0,1,1,2)=1 got(0,0..4)=0|0|1|1|1 word(0,0)=11 read(0)=1 got(0,0..4)=0|1|2|1|2 word(0,0)=22");
        // An ECHO keeps what it read, not what it wrote; a MERGE tells the ring.
        run("ring(2*2)=0|1 reader(7,1,0)=0 reader(5,1,0)=1 begin()=1 claim(0,6)=0 claim(1,5)=0 fill(1,0,7,3)=1",
            "publish(1,0,2,4)=1 read(0)=1 got(0,0..4)=1|0|5|2|4 word(0,7)=3 publish(0,0,8,1)=1 read(1)=1",
            "got(1,0..4)=1|0|5|2|4 word(1,7)=3 close(1)=1 read(1)=1 got(1,0..4)=0|0|6|8|1 word(1,7)=0 read(1)=1",
            "got(1,0..4)=0|1|6|2|4 word(1,7)=3");
        run(begun(1, "1|3"), "claim(0,4)=0 fill(0,0,3,5)=1 publish(0,0,6,7)=1 read(0|1)=1 claim(0,8)=1 fill(0,1,3,9)=1",
            "got(0,0..4)=0|0|4|6|7 got(1,0..4)=0|0|4|6|7 word(0|1,3)=5 publish(0,1,1,1)=1 give(0)=1 read(0|1)=FOUND",
            "got(0,0..4)=0|0|4|6|7 got(1,0..4)=0|0|4|6|7 word(0|1,3)=5");

        sentence("READING, by kinds (n is CLAIMED of the ring):");
        run(allKinds(2), "begin()=1 read(0..6)=0", post(0, 0, 0, 0, 0), "read(0..3)=1 read(4)=0 read(5|6)=1 read(4)=1",
            "read(0..6)=0 of(0..6,8)=1");
    }

    private void sees() {
        sentence("SEES: of the claims that are PUBLISHED and not LOST the one with the greatest number, "
            + "if that is greater than the number of what it got last (if it got something).");
        // Claim 0 is one, if nothing was got; then it is none.
        run(begun(4, "1"), "read(0)=0 claim(0,0)=0 read(0)=0 publish(0,0,0,0)=1 read(0)=1 got(0,1)=0 read(0)=0");
        run(begun(8, "1"), "batch(0,0,6)=0 read(0)=0 publish(0,2,0,0)=1 read(0)=1 got(0,1)=2 publish(0,1,0,0)=1",
            "read(0)=0 got(0,1)=2 publish(0,0,0,0)=1 read(0)=0 publish(0,4,0,0)=1 publish(0,3,0,0)=1 read(0)=1",
            "got(0,1)=4 read(0)=0 publish(0,5,0,0)=1 read(0)=1 got(0,1)=5 of(0,8)=3");
        // Claims 0 .. 3 are PUBLISHED; 3 is LOST once claim 7 is made, and not before.
        run(begun(4, "1"), "batch(0,0,4)=0 publish(0,0..3,0,0)=1 batch(0,0,4)=4 why(0)=2 read(0)=0 got(0,1)=-1",
            "publish(0,4,0,0)=1 read(0)=1 got(0,1)=4");
        run(begun(4, "1"), "batch(0,0,4)=0 publish(0,0..3,0,0)=1 batch(0,0,3)=4 why(0)=0 read(0)=1 got(0,1)=3",
            "publish(0,4,0,0)=1 read(0)=1 got(0,1)=4");
        // In the slot of what it got, one round later.
        run(begun(2, "1"), post(0, 0, 0, 0, 0), "read(0)=1 got(0,1)=0", post(0, 1, 2, 0, 0), "read(0)=1 got(0,1)=2",
            "read(0)=0", post(0, 3, 6, 0, 0), "read(0)=1 got(0,1)=6 read(0)=0");
        run(begun(2, "1"), post(0, 0, 0, 0, 0), "close(0)=1 read(0)=1 got(0,1)=0 read(0)=0");
    }

    private void waits() {
        sentence("WAITS: claim PLACE, if it is made and PUBLISHED; then PLACE is one more.");
        run(begun(4, "2"), "read(0)=0 place(0,0)=0 batch(0,0,2)=0 read(0)=0 publish(0,1,0,0)=1 read(0)=0 got(0,1)=-1",
            "place(0,0)=0 publish(0,0,0,0)=1 read(0)=1 got(0,1)=0 place(0,0)=1 read(0)=1 got(0,1)=1 place(0,0)=2",
            "read(0)=0 got(0,1)=1 place(0,0)=2");
        for (int slots : SLOTS) {
            run(begun(slots, "2"), each(0, 2 * Math.min(slots, 40),
                "claim(0,#)=# publish(0,#,0,0)=1 read(0)=1 got(0,1)=#"), "read(0)=0");
        }
        run(begun(4, "2"), post(0, 0, 0, 0, 0), "claim(0,0)=1 close(0)=1 read(0)=1 read(0)=0 publish(0,1,0,0)=1",
            "read(0)=1 read(0)=0 got(0,1)=1");
    }

    private void misses() {
        sentence("MISSES: if n - SLOTS is above PLACE, claims PLACE .. n - SLOTS - 1 are MISSED, that is its SPAN, "
            + "and PLACE becomes n - SLOTS; then as WAITS.");
        // n - SLOTS below PLACE, the same, one above it, two above it.
        run(begun(2, "3"), post(0, 0, 0, 0, 0), "read(0)=1 got(0,1)=0 of(0,3..5)=0|-1|-1 read(0)=0 place(0,0)=1");
        run(begun(2, "3"), post(0, 0, 1, 0, 0), "read(0)=1 got(0,1)=0 of(0,2..5)=1|0|-1|-1");
        run(begun(2, "3"), post(0, 0, 2, 0, 0), "read(0)=1 got(0,1)=1 of(0,2..5)=2|1|0|0");
        run(begun(2, "3"), post(0, 0, 3, 0, 0), "read(0)=1 got(0,1)=2 of(0,2..5)=3|2|0|1");
        // The latest SPAN is told, and all that were MISSED; a SPAN stays if nothing more is MISSED.
        run(begun(2, "3"), post(0, 0, 4, 0, 0), "of(0,2..5)=0|0|-1|-1 read(0)=1 of(0,2..5)=4|3|0|2",
            post(0, 5, 7, 0, 0),
            "of(0,2..5)=4|3|0|2 read(0)=1 got(0,1)=6 of(0,2..5)=7|5|4|5 read(0)=1 got(0,1)=7 of(0,2..5)=8|5|4|5",
            "read(0)=0 of(0,2..5)=8|5|4|5");
        // Then as WAITS: what comes then is OPEN, and is not got, but the others are MISSED.
        run(begun(2, "3"), post(0, 0, 1, 0, 0), "batch(0,0,2)=2 read(0)=0 of(0,2..5)=2|2|0|1 read(0)=0",
            "of(0,2..5)=2|2|0|1 publish(0,2,0,0)=1 read(0)=1 got(0,1)=2 of(0,2..5)=3|2|0|1");
        for (int slots : SLOTS) {
            run(begun(slots, "3"), post(0, 0, slots + 1, 0, 0), "read(0)=1 got(0,1)=2 of(0,2..5)=3|2|0|1");
        }
        // All of a small ring, read in time: nothing is MISSED.
        run(begun(1, "3"), each(0, 20, "claim(0,0)=# publish(0,#,0,0)=1 read(0)=1 got(0,1)=#"),
            "of(0,2..5)=21|0|-1|-1");
        run(begun(1, "3"), post(0, 0, 1, 0, 0), "close(0)=1 read(0)=1 got(0,1)=1 of(0,2..5)=2|1|0|0");
    }

    private void missesOfGiven() {
        sentence("Of a ring that is GIVEN: claims PLACE .. n - 1 are MISSED likewise, if there are such, "
            + "and PLACE becomes n.");
        run(begun(4, "3"), post(0, 0, 5, 0, 0), "give(0)=1 of(0,2..5)=0|0|-1|-1 read(0)=FOUND of(0,2..5)=6|6|0|5",
            "got(0,1)=-1 read(0)=FOUND of(0,2..5)=6|6|0|5");
        // One such, n - SLOTS below 0; none such, with and without claims.
        run(begun(4, "3"), post(0, 0, 2, 0, 0), "read(0|0)=1 give(0)=1 read(0)=FOUND of(0,2..5)=3|1|2|2 got(0,1)=1");
        run(begun(4, "3"), post(0, 0, 2, 0, 0), "read(0*3)=1 give(0)=1 read(0)=FOUND of(0,2..5)=3|0|-1|-1");
        run(begun(4, "3"), "give(0)=1 read(0)=FOUND of(0,2..5)=0|0|-1|-1");
        // An earlier SPAN stays where there are none, and else another one is the latest; by round() too.
        run(begun(1, "3"), post(0, 0, 2, 0, 0), "read(0)=1 of(0,2..5)=3|2|0|1 give(0)=1 read(0)=FOUND",
            "of(0,2..5)=3|2|0|1");
        run(begun(1, "3"), post(0, 0, 2, 0, 0), "read(0)=1", post(0, 3, 3, 0, 0), "give(0)=1 round()=0",
            "of(0,2..5)=4|3|3|3");
    }

    private void gate() {
        sentence("GATE: as WAITS, but only if the PLACE (in this ring) of each reader that it NAMES is above its own.");
        // Below it never is; the same; one above; two above.
        run("ring(4)=0 reader(2,0,0)=0 reader(6,0,0)=1 begin()=1 read(1)=0", post(0, 0, 2, 0, 0),
            "read(1)=0 place(1,0)=0 read(0)=1 read(1)=1 got(1,1)=0 place(1,0)=1 read(1)=0 read(0|0)=1 read(1)=1",
            "read(1)=1 read(1)=0 place(1,0)=3 got(1,1)=2");
        // As WAITS: not made, and OPEN.
        run("ring(1)=0 reader(3,0,0)=0 reader(6,0,0)=1 begin()=1 read(1)=0 claim(0,0)=0 read(1)=0 publish(0,0,0,0)=1",
            "read(1)=0 read(0)=1 read(1)=1 got(1,1)=0");
        // Each of four, in every order; one that is late is enough.
        String[] inTime = {"1|2|3", "0|2|3", "0|1|3", "0|1|2"};
        for (int late = 0; late < 4; late++) {
            run("ring(2)=0 reader(2*4,0,0)=0..3 reader(6,0,3)=4 name(4,0..2)=1 begin()=1", post(0, 0, 0, 0, 0),
                "read(" + inTime[late] + ")=1 read(4)=0 read(" + late + ")=1 read(4)=1");
        }
        // The PLACE in this ring: the MERGE has read in its first ring alone, then in this one.
        run("ring(4*2)=0|1 reader(5,1,0)=0 reader(6,0,0)=1 begin()=1 claim(1,0)=0 publish(1,0,0,0)=1 claim(0,5)=0",
            "publish(0,0,0,0)=1 read(0)=1 got(0,0)=1 place(0,0|1)=0|1 read(1)=0 close(1)=1 read(0)=1 read(1)=1");
        // A MISSES that it NAMES, twice.
        run("ring(2)=0 reader(3,0,0)=0 reader(6,0,0)=1 begin()=1", post(0, 0, 1, 0, 0), "read(1)=0 read(0)=1 read(1)=1",
            "read(1)=0 read(0)=1 read(1)=1 got(1,1)=1");
    }

    private void echo() {
        sentence("ECHO: as GATE, but only if its TARGET is neither GIVEN nor CLOSED and a claim there isn't HELD UP;");
        run("ring(4*2)=0|1 reader(7,0,1)=0 begin()=1 read(0)=0 claim(0,0)=0 read(0)=0 told(1,1)=0 publish(0,0,0,0)=1",
            "read(0)=1 place(0,0)=1 read(0)=0 told(1,1)=1");
        // As GATE: one that it NAMES is late, or is not.
        run("ring(4*2)=0|1 reader(2,0,0)=0 reader(7,0,1)=1 name(1,0)=1 begin()=1", post(0, 0, 0, 0, 0),
            "read(1)=0 told(1,1)=0 read(0)=1 read(1)=1 told(1,1)=1");
        run("ring(4*2)=0|1 reader(7,0,1)=0 begin()=1", post(0, 0, 0, 0, 0), "give(1)=1 read(0)=0 told(1,1)=0",
            "got(0,1)=-1 place(0,0)=0");
        run("ring(4*2)=0|1 reader(7,0,1)=0 begin()=1", post(0, 0, 0, 0, 0), "close(1)=1 read(0)=0 told(1,1)=0",
            "got(0,1)=-1 place(0,0)=0 give(1)=1 read(0)=0 found(0)=0");
        // HELD UP there by a claim that is OPEN, and by a HOLDER; with n one below SLOTS it isn't.
        run("ring(4)=0 ring(2)=1 reader(7,0,1)=0 begin()=1 claim(1,0)=0", post(0, 0, 1, 0, 0),
            "read(0)=1 read(0)=0 place(0,0)=1 told(1,1)=2 publish(1,0,0,0)=1 read(0)=1 told(1,1)=3");
        run("ring(4)=0 ring(2)=1 reader(7,0,1)=0 reader(2,1,0)=1 begin()=1", post(0, 0, 2, 0, 0),
            "read(0|0)=1 read(0)=0 place(0,0)=2 told(1,1)=2 read(1)=1 read(0)=1 told(1,1)=3 got(0,1)=2");
        // A claim that is HELD UP in its own ring counts nothing.
        run("ring(1)=0 ring(1)=1 reader(7,0,1)=0 reader(2,0,0)=1 begin()=1", post(0, 0, 0, 0, 0), "told(0,5)=1",
            "read(0)=1");
    }

    private void echoWritesOn() {
        sentence("and then what it gets is claimed there, too, with its STAMP, or with LAST of the TARGET "
            + "if that had a claim and its STAMP is below it, has the KEY, LENGTH and longs, and is PUBLISHED.");
        run("ring(4*2)=0|1 reader(7,0,1)=0 reader(2,1,0)=1 reader(4,1,0)=2 begin()=1 claim(0,5)=0",
            each(0, 7, "fill(0,0,#,10#)=1"), "publish(0,0,31,8)=1 read(0)=1 told(1,1..2)=1|0 last(1)=5 entry(2,0)=31",
            "read(1)=1 got(1,0..4)=1|0|5|31|8 word(1,0..7)=100..107",
            // The fifth one comes into the slot of the first one there, and has nothing of it.
            each(1, 4, "claim(0,6)=# read(0)=0 publish(0,#,0,0)=1 read(0)=1 read(1)=1"),
            "got(1,0..4)=1|4|6|0|0 word(1,0..7)=0 told(1,1)=5 of(2,6)=2");
        // Its TARGET had no claim: its STAMP, though last() tells 0.
        run("ring(4*2)=0|1 reader(7,0,1)=0 begin()=1", post(0, 0, 0, -5, 0), "last(1)=0 read(0)=1 last(1)=-5",
            "got(0,2)=-5");
        run("ring(4*2)=0|1 reader(7,0,1)=0 begin()=1 claim(0,MIN)=0 publish(0,0,0,0)=1 read(0)=1 last(1)=MIN");
        // Its STAMP is one below LAST, the same, one above it.
        for (int stamp = 6; stamp <= 8; stamp++) {
            run("ring(4*2)=0|1 reader(7,0,1)=0 reader(2,1,0)=1 begin()=1", post(1, 0, 0, 7, 0), post(0, 0, 0, stamp, 0),
                "read(0)=1 got(0,2)=" + stamp + " last(0|1)=" + stamp + "|" + Math.max(7, stamp),
                "read(1|1)=1 got(1,1..2)=1|" + Math.max(7, stamp));
        }
        run("ring(4*2)=0|1 reader(7,0,1)=0 begin()=1 claim(1,MAX)=0 claim(0,MIN)=0 publish(0,0,0,0)=1 read(0)=1",
            "last(1)=MAX claim(1,MAX)=2");
        // Two that write on to one another, and one that reads what another one wrote.
        run("ring(2*3)=0..2 reader(7,0,1)=0 reader(7,1,2)=1 reader(7,2,0)=2 begin()=1", post(0, 0, 0, 3, 9),
            "round()=3 told(0..2,1)=2|1|1 told(0..2,2)=0 round()=3 told(0..2,1)=3|2|2 got(2,0..4)=2|1|3|9|0");
    }

    private void merge() {
        sentence("MERGE: its rings that are GIVEN, or CLOSED with all claims read by it, are passed over.");
        run("ring(4*4)=0..3 reader(5,0,1)=0 join(0,2|3)=1 begin()=1", post(0, 0, 0, 5, 0), post(1, 0, 0, 4, 0),
            "read(0)=0 give(2)=1 read(0)=0 close(3)=1 read(0)=1 got(0,0)=1");
        // CLOSED, but not all of its claims are read: one that is PUBLISHED is merged, one that is OPEN is waited for.
        run("ring(4*2)=0|1 reader(5,0,1)=0 begin()=1", post(0, 0, 0, 5, 0), post(1, 0, 0, 4, 0), "close(1)=1 read(0)=1",
            "got(0,0)=1 read(0)=1 got(0,0)=0 read(0)=0");
        run("ring(4*2)=0|1 reader(5,0,1)=0 begin()=1", post(0, 0, 0, 5, 0), "claim(1,4)=0 close(1)=1 read(0)=0",
            "publish(1,0,0,0)=1 read(0)=1 got(0,0)=1 read(0)=1 got(0,0)=0");
        // All claims of one that isn't CLOSED are read: it is waited for.
        run("ring(4*2)=0|1 reader(5,0,1)=0 begin()=1", post(0, 0, 0, 5, 0), post(1, 0, 0, 4, 0), "read(0)=1 read(0)=0",
            "give(1)=1 read(0)=1 got(0,0)=0");

        sentence("If each other one has a claim PLACE that is made and PUBLISHED: of these claims the one with the "
            + "least STAMP, of equals that of the least ring; then that PLACE is one more.");
        run("ring(4*3)=0..2 reader(5,2,1)=0 join(0,0)=1 begin()=1", post(2, 0, 0, 5, 0), post(1, 0, 0, 6, 0),
            "read(0)=0 claim(0,6)=0 read(0)=0 publish(0,0,0,0)=1 read(0)=1 got(0,0)=2 place(0,0..2)=0|0|1 read(0)=0",
            post(2, 1, 1, 6, 0), "read(0)=1 got(0,0)=0 place(0,0..2)=1|0|1 read(0)=0", post(0, 1, 1, 7, 0),
            "read(0)=1 got(0,0)=1 place(0,0..2)=1|1|1", post(1, 1, 1, 6, 0),
            "read(0)=1 got(0,0)=1 place(0,0..2)=1|2|1 read(0)=0");
        run("ring(4*2)=0|1 reader(5,0,1)=0 begin()=1 claim(0,MAX)=0 claim(1,MIN)=0 publish(0|1,0,0,0)=1 read(0)=1",
            "got(0,0)=1 got(0,2)=MIN close(1)=1 read(0)=1 got(0,2)=MAX");
        run("ring(4*2)=0|1 reader(5,1,0)=0 begin()=1 claim(0,MAX)=0 claim(1,MAX)=0 publish(0|1,0,0,0)=1 read(0)=1",
            "got(0,0)=0");
        // All claims in turn, past the ends of both rings.
        run("ring(1)=0 ring(2)=1 reader(5,1,0)=0 begin()=1", post(0, 0, 0, 0, 0), post(1, 0, 0, 5, 0),
            "read(0)=1 got(0,0..1)=0|0",
            each(1, 9, "claim(0,#0)=# publish(0,#,0,0)=1 read(0)=1 got(0,0)=1 read(0)=0 "
                + "claim(1,#5)=# publish(1,#,0,0)=1 read(0)=1 got(0,0..1)=0|#"), "place(0,0..1)=10|9");

        sentence("Without other ones nothing.");
        run("ring(4*2)=0|1 reader(5,0,1)=0 begin()=1 give(0)=1 close(1)=1 read(0)=0 got(0,0)=-1 why(0)=6");
        run("ring(4*2)=0|1 reader(5,0,1)=0 begin()=1 close(0|1)=1 read(0)=0 why(0)=6 give(0|1)=1 read(0)=0 why(0)=6",
            "found(0)=0");
    }

    private void folds() {
        sentence("FOLDS: when a claim of its ring is PUBLISHED, and it has no ENTRY of that KEY, it has one behind the "
            + "others, of this claim; if it has one of a claim with a lesser number, that becomes one of this claim, "
            + "in its place.");
        run(begun(8, "4"), "batch(0,4,6)=0 of(0,6)=0 publish(0,2,5,2)=1 of(0,6)=1 publish(0,0,9,0)=1",
            "entry(0,0..2)=5|9|-1",
            // Claim 1 is a lesser one than 2; claim 4 is a greater one than 0; claim 3 is a lesser one than 4.
            "publish(0,1,5,1)=1 publish(0,4,9,4)=1 publish(0,3,9,3)=1 of(0,6)=2 publish(0,5,1,5)=1",
            "entry(0,0..3)=5|9|1|-1 read(0)=1 got(0,0..4)=0|2|4|5|2 read(0)=1 got(0,0..4)=0|4|4|9|4 read(0)=1",
            "got(0,0..4)=0|5|4|1|5 read(0)=0 of(0,6)=0");
        // In its place: the first one, the middle one and the last one of three.
        run(begun(8, "4"), each(0, 2, "claim(0,0)=# publish(0,#,2#,0)=1"), "claim(0,0)=3 publish(0,3,20,0)=1",
            "entry(0,0..3)=20|21|22|-1 claim(0,0)=4 publish(0,4,21,0)=1 entry(0,0..3)=20|21|22|-1 claim(0,0)=5",
            "publish(0,5,22,0)=1 entry(0,0..3)=20|21|22|-1", each(3, 5, "read(0)=1 got(0,1)=#"), "read(0)=0");
        // All of the claim becomes the ENTRY: STAMP, LENGTH and longs, too.
        run(begun(2, "4"), "claim(0,1)=0 fill(0,0,0..7,3)=1 publish(0,0,6,1)=1 claim(0,2)=1 fill(0,1,7,4)=1",
            "publish(0,1,6,2)=1 of(0,6)=1 read(0)=1 got(0,0..4)=0|1|2|6|2 word(0,0..7)=0|0|0|0|0|0|0|4 read(0)=0");
        // As many as there are KEYS, the least and the greatest among them; then each of them in its place.
        run(begun(1, "4"), each(0, 31, "claim(0,0)=# publish(0,#,#,0)=1"), "of(0,6)=32 entry(0,-1..32)=-1..31|-1",
            each(0, 31, "claim(0,1)=#+32 publish(0,#+32,#,2)=1"), "of(0,6)=32 entry(0,-1..32)=-1..31|-1",
            each(0, 31, "read(0)=1 got(0,1..4)=#+32|1|#|2"), "read(0)=0");
        // What is PUBLISHED in another ring counts nothing, and each FOLDS has ENTRIES of its own.
        run("ring(4*2)=0|1 reader(4*3,0,0)=0..2 reader(4,1,0)=3 begin()=1", post(1, 0, 0, 0, 8), "of(0..3,6)=0|0|0|1",
            post(0, 0, 0, 0, 9), "of(0..3,6)=1 read(1)=1 of(0..3,6)=1|0|1|1 entry(0..3,0)=9|-1|9|8");
        // Its ENTRY went: an older claim of the KEY makes another one.
        run(begun(2, "4"), "batch(0,0,2)=0 publish(0,1,5,0)=1 read(0)=1 got(0,1)=1 publish(0,0,5,0)=1 of(0,6)=1",
            "read(0)=1 got(0,1)=0");
        // What an ECHO writes on is PUBLISHED, too.
        run("ring(2*2)=0|1 reader(4,1,0)=0 reader(7,0,1)=1 begin()=1", post(0, 0, 0, 0, 7), "of(0,6)=0 read(1)=1",
            "entry(0,0)=7");

        sentence("Reading: the first ENTRY, which goes.");
        run(begun(8, "4"), "read(0)=0", each(0, 2, "claim(0,0)=# publish(0,#,1#,0)=1"), "entry(0,0..3)=10|11|12|-1",
            "read(0)=1 got(0,3)=10 of(0,6)=2 entry(0,0..2)=11|12|-1 claim(0,0)=3 publish(0,3,10,0)=1",
            "entry(0,0..3)=11|12|10|-1 read(0)=1 got(0,1..3)=1|0|11 read(0)=1 got(0,3)=12 read(0)=1 got(0,1..3)=3|0|10",
            "of(0,6)=0 entry(0,0)=-1 read(0)=0 got(0,3)=10 of(0,8)=4");
        run(begun(1, "4"), each(0, 31, "claim(0,0)=# publish(0,#,#,0)=1"), each(0, 31, "read(0)=1 got(0,3)=#"),
            "read(0)=0");

        sentence("(It has its ENTRIES, with their longs, also of claims that are LOST.)");
        run(begun(1, "4"), post(0, 0, 0, 0, 30),
            each(1, 5, "claim(0,#)=# fill(0,#,0,4#)=1 fill(0,#,7,5#)=1 publish(0,#,#,#)=1"), "give(0)=1 read(0)=1",
            "got(0,1)=0 word(0,0..7)=0",
            each(1, 5, "read(0)=1 got(0,1..4)=#|#|#|# word(0,0|7)=4#|5#"), "read(0)=0 found(0)=0");
    }

    private void heldUp() {
        sentence("A CLAIM in a ring that has n claims is HELD UP if n is SLOTS or more and claim n - SLOTS is OPEN, "
            + "or a HOLDER's PLACE in the ring is n - SLOTS or less.");
        for (int slots : SLOTS) {
            String all = "0.." + (slots - 1);
            // n below SLOTS, with all of them OPEN and a HOLDER at 0; then n equal to SLOTS.
            run(begun(slots, "2"), each(0, slots - 1, "told(0,5)=0 claim(0,0)=#"), "told(0,5)=1 claim(0,0)=HELD by()=0",
                "batch(0,0,1)=HELD");
            // n equal to SLOTS and claim 0 OPEN, then not; then one beyond, and claim 1 OPEN. The others count nothing.
            run(begun(slots, "1"), "batch(0,0," + slots + ")=0 told(0,5)=1 claim(0,0)=HELD by()=-1 publish(0,0,0,0)=1",
                "told(0,5)=0 claim(0,0)=" + slots, "told(0,5)=1 claim(0,0)=HELD by()=-1 publish(0,1,0,0)=1 told(0,5)=0",
                "claim(0,0)=" + (slots + 1));
            // The HOLDER alone: its PLACE is n - SLOTS, then one more; n is SLOTS, then one beyond.
            run(begun(slots, "2"), "batch(0,0," + slots + ")=0 publish(0," + all + ",0,0)=1 told(0,5)=1",
                "claim(0,0)=HELD by()=0 read(0)=1 told(0,5)=0 claim(0,0)=" + slots, "publish(0," + slots + ",0,0)=1",
                "told(0,5)=1 claim(0,0)=HELD read(0)=1 told(0,5)=0 claim(0,0)=" + (slots + 1));
        }
        // Far beyond.
        run(begun(2, "2"), post(0, 0, 1, 0, 0),
            each(2, 40, "told(0,5)=1 claim(0,0)=HELD read(0)=1 told(0,5)=0 claim(0,0)=# publish(0,#,0,0)=1"));
        // Only a HOLDER of this ring counts.
        run("ring(1*2)=0|1 reader(2,1,0)=0 begin()=1", post(0, 0, 3, 0, 0), "told(0,5)=0");
        // n below SLOTS by one.
        run(begun(4, "2"), post(0, 0, 2, 0, 0), "told(0,5)=0 claim(0,0)=3 told(0,5)=1 read(0)=1 told(0,5)=0");
    }

    private void by() {
        sentence("BY is the least such HOLDER, or -1 if there is none.");
        // Readers 0 and 1 don't hold; 2 .. 4 do, and 2 is the first one that has read.
        run(begun(1, "1|3|2|2|2"), post(0, 0, 0, 0, 0), "claim(0,0)=HELD by()=2 read(2)=1 claim(0,0)=HELD by()=3",
            "read(4)=1 claim(0,0)=HELD by()=3 read(3)=1 claim(0,0)=1");
        // The least number, not the least PLACE: 0 is at 1, and 1 is at 0.
        run(begun(2, "2|2"), "batch(0,0,2)=0 publish(0,0|1,0,0)=1 read(0)=1 claim(0,0)=HELD by()=1 read(1|1)=1",
            "claim(0,0)=2 claim(0,0)=HELD by()=0");
        // Such a HOLDER is told though the claim is OPEN, too; without one it is -1, also behind another BY.
        run(begun(1, "2"), "claim(0,0)=0 claim(0,0)=HELD by()=0");
        run("ring(1*2)=0|1 reader(2,0,0)=0 begin()=1", post(0, 0, 0, 0, 0), "claim(0,0)=HELD by()=0 claim(1,0)=0",
            "claim(1,0)=HELD by()=-1");
        run("ring(1)=0 reader(3*15,0,0)=0..14 reader(2,0,0)=15 begin()=1",
            post(0, 0, 0, 0, 0), "claim(0,0)=HELD by()=15");
    }

    private void ready() {
        sentence("A reader is READY if reading now would get something.");
        run(allKinds(4), "begin()=1 why(0..3|5|6)=2 why(4)=7 read(0..6)=0", post(0, 0, 0, 0, 0),
            "why(0..3)=0 why(4)=7 why(5)=4 why(6)=0 read(4|5)=0 read(0..3)=1 why(5)=0 read(5)=1 read(6)=1 why(4)=0",
            "read(4)=1 why(0..3|5|6)=2 why(4)=7 read(0..6)=0");
        // A MISSES is, if the claim is there that it would come to; and asking moves nothing.
        run(begun(1, "3"), post(0, 0, 1, 0, 0), "why(0)=0 of(0,2..3)=0|0 read(0)=1 of(0,2..3)=2|1");
    }

    private void stuck() {
        sentence("THE POST is STUCK if it has begun, no reader is READY, there is a ring that is neither GIVEN nor "
            + "CLOSED, and in each such ring a claim is HELD UP.");
        run("stuck()=0 ring(1)=0 reader(2,0,0)=0 stuck()=0 begin()=1 stuck()=0 claim(0,0)=0 stuck()=1",
            // A reader is READY; then a claim isn't HELD UP any more.
            "publish(0,0,0,0)=1 stuck()=0 read(0)=1 stuck()=0");
        // No ring at all, and none that is neither.
        run("begin()=1 stuck()=0");
        run("ring(1)=0 begin()=1 claim(0,0)=0 stuck()=1 close(0)=1 stuck()=0");
        run("ring(1)=0 begin()=1 give(0)=1 stuck()=0");
        // Each such ring, the first and the last one; one that is GIVEN or CLOSED isn't such a ring.
        run("ring(1*8)=0..7 begin()=1 claim(0..6,0)=0 stuck()=0 claim(7,0)=0 stuck()=1 publish(0,0,0,0)=1 stuck()=0",
            "close(0)=1 stuck()=1 publish(7,0,0,0)=1 stuck()=0 give(7)=1 stuck()=1 close(1..6)=1 stuck()=0");
        // Each reader, the first and the last one, and each kind.
        run("ring(1*2)=0|1 reader(1,1,0)=0 reader(3*14,0,0)=1..14 reader(4,1,0)=15 begin()=1 claim(0|1,0)=0 stuck()=1",
            "publish(1,0,0,0)=1 stuck()=0 claim(1,0)=1 stuck()=0 read(0)=0 read(15)=1 stuck()=1");
        for (int kind = 1; kind <= 4; kind++) {
            run("ring(1*2)=0|1 reader(" + kind + ",0,0)=0 reader(2,0,0)=1 begin()=1", post(0, 0, 0, 0, 0),
                "claim(1,0)=0 read(1)=1 stuck()=0 close(0)=1 stuck()=0 read(0)=1 stuck()=1");
        }
        run("ring(2)=0 reader(1,0,0)=0 begin()=1 batch(0,0,2)=0 stuck()=1 publish(0,1,0,0)=1 stuck()=0 read(0)=1",
            "stuck()=1");
        // Two ECHOES each of which waits for the other one.
        run("ring(1*2)=0|1 reader(7,0,1)=0 reader(7,1,0)=1 begin()=1 claim(0,0)=0 stuck()=0 claim(1,0)=0 stuck()=1",
            "publish(0|1,0,0,0)=1 why(0|1)=5 stuck()=1 round()=0");
        // A MERGE waits for a ring that is HELD UP by another reader's claim.
        run("ring(1*2)=0|1 reader(5,0,1)=0 begin()=1", post(0, 0, 0, 0, 0), "stuck()=0 claim(1,0)=0 stuck()=1",
            "publish(1,0,0,0)=1 stuck()=0");
        // A FOLDS is READY though its ring is GIVEN.
        run("ring(1*2)=0|1 reader(4,0,0)=0 begin()=1", post(0, 0, 0, 0, 0), "give(0)=1 claim(1,0)=0 stuck()=0",
            "read(0)=1 stuck()=1");
        // A GATE is READY.
        run("ring(1)=0 reader(3,0,0)=0 reader(6,0,0)=1 begin()=1", post(0, 0, 0, 0, 0), "stuck()=0 read(0)=1 stuck()=0",
            "read(1)=1 stuck()=0 claim(0,0)=1 stuck()=1");
    }

    private void findings() {
        sentence("FINDINGS are refusals of the host that are caught: 1 MISSING (the row of a ring that is GIVEN)");
        run(allKinds(1), "begin()=1 give(0)=1 fill(0,0,0,0)=FOUND copy(0,0,0,0,0)=FOUND read(0|1|2|5|6)=FOUND",
            "found(0..1)=1|7 found(2..6)=0");

        sentence("2 BEYOND (a ring, reader or long that isn't there)");
        run("ring(1)=0 begin()=1 told(1,0)=FOUND of(0,0)=FOUND read(0)=FOUND named(0,0)=FOUND entry(0,0)=FOUND",
            "target(0)=FOUND claim(0,0)=0 fill(0,0,8,0)=FOUND found(0..6)=2|0|7|0|0|0|0");

        sentence("3 SIZE (a row of less than nothing is wanted)");
        run("ring(0)=NUMBER found(0)=0 ring(-1)=FOUND found(0..6)=3|0|0|1|0|0|0");

        sentence("4 CAST (a reader is of another kind)");
        run("ring(1)=0 reader(2,0,0)=0 named(0,0)=FOUND entry(0,0)=FOUND target(0)=FOUND found(0..6)=4|0|0|0|3|0|0");

        sentence("5 COPY (more is to be copied than there is or than there is room for)");
        run(begun(1, "2"), "claim(0,0)=0 copy(0,0,0,0,8)=1 copy(0,0,0,8,0)=1 found(0)=0 copy(0,0,0,0,9)=FOUND",
            "copy(0,0,0,8,1)=FOUND found(0..6)=5|0|0|0|0|2|0");

        sentence("6 NONE (a failure is thrown that is none).");
        run("again()=FOUND found(0..6)=6|0|0|0|0|0|1");

        sentence("A call that says so answers FOUND then, and the FINDING is counted and is the latest one.");
        run(allKinds(1), "found(0..6)=0 ring(-1)=FOUND found(0..6)=3|0|0|1|0|0|0 target(0)=FOUND",
            "found(0..6)=4|0|0|1|1|0|0 again()=FOUND found(0..6)=6|0|0|1|1|0|1 told(2,0)=FOUND",
            "found(0..6)=2|0|1|1|1|0|1 begin()=1 claim(1,0)=0 copy(1,0,0,9,9)=FOUND found(0..6)=5|0|1|1|1|1|1",
            "give(0)=1 read(0)=FOUND found(0..6)=1|1|1|1|1|1|1 ring(-9)=FOUND found(0..6)=3|1|1|2|1|1|1",
            // A refusal that is no FINDING leaves the latest one.
            "ring(9)=NUMBER begin()=STATE claim(0,0)=GIVEN found(0..6)=3|1|1|2|1|1|1 again()=GIVEN found(6)=1");
    }

    private void refusedAhead() {
        sentence("A call that is refused (answers below 0) changes nothing but what found(), again(), by() and "
            + "circle() tell (and reading of MISSES, as told).");
        run("ring(-1)=FOUND ring(3)=NUMBER made()=0 told(0,0)=FOUND ring(2)=0 made()=3 begin()=1 ring(2)=STATE",
            "made()=3 told(1,0)=FOUND");
        run("ring(1*8)=0..7 made()=16 ring(64)=FULL made()=16 told(7|8,0)=1|FOUND");
        run("ring(1*2)=0|1 reader(0,0,0)=NUMBER reader(6,0,0)=NUMBER reader(4,2,0)=NUMBER made()=4 reader(1,0,0)=0",
            "reader(6,0,0)=KIND made()=5 told(0,4)=0 reader(2,0,0)=1 begin()=1 reader(2,0,0)=STATE told(0,4)=1",
            "made()=6 of(2,0)=FOUND");
        run("ring(1)=0 reader(2*16,0,0)=0..15 reader(2,0,0)=FULL told(0,4)=16 made()=18 of(16,0)=FOUND");
        run("ring(4*6)=0..5 reader(5,0,1)=0 reader(2,2,0)=1 join(0,6)=NUMBER join(1,0)=KIND join(0,1)=THERE",
            "join(0,2|3)=1 join(0,4)=FULL place(0,0..5)=0|0|0|0|-1|-1 place(1,0..5)=-1|-1|0|-1|-1|-1 told(4,4)=0",
            "begin()=1 join(0,5)=STATE place(0,5)=-1 told(5,4)=0", post(0, 0, 0, 0, 0), post(1, 0, 0, 0, 0),
            post(2, 0, 0, 0, 0),
            post(3, 0, 0, 0, 0), "read(0)=1");
        run("ring(4)=0 reader(2*6,0,0)=0..5 reader(6,0,0)=6 reader(6,0,6)=7 name(6,8)=NUMBER name(0,1)=KIND",
            "name(6,0|6)=THERE name(6,7)=CIRCLE of(6,7)=1 name(6,1|2|3)=1 name(6,4)=FULL of(6|0,7)=4|0",
            "named(6,0..4)=0|1|2|3|-1 begin()=1 name(7,5)=STATE begin()=STATE of(7,7)=1", post(0, 0, 0, 0, 0),
            "read(0..3)=1 read(6)=1 read(7)=1");
    }

    private void refusedWriters() {
        // Claims and batches: the claim in the next slot keeps its longs, and CLAIMED, LAST and OPEN stay.
        run(begun(2, "1|4"), "claim(0,5)=0 fill(0,0,0..7,6)=1 publish(0,0,3,4)=1 claim(0,7)=1 batch(0,9,2)=HELD",
            "told(0,1..2)=2|1 last(0)=7 claim(0,6)=FALLS batch(0,6,1)=FALLS last(0)=7 batch(0,9,3|0)=NUMBER",
            "told(0,1..2)=2|1 read(0)=1 got(0,0..4)=0|0|5|3|4 word(0,0..7)=6 claim(0,7)=2");
        run(begun(1, "2"), "claim(0,5)=0 fill(0,0,0,6)=1 claim(0,8)=HELD last(0)=5 told(0,1..2)=1|1 publish(0,0,0,0)=1",
            "claim(0,8)=HELD last(0)=5 told(0,1..2)=1|0 read(0)=1 got(0,2)=5 word(0,0)=6 close(0)=1 claim(0,8)=CLOSED",
            "batch(0,8,1)=CLOSED last(0)=5 told(0,1)=1 give(0)=1 claim(0,8)=GIVEN batch(0,8,1)=GIVEN last(0)=5",
            "told(0,1)=1");
        run("ring(1)=0 claim(0,5)=STATE batch(0,5,1)=STATE last(0)=0 told(0,1)=0 begin()=1 claim(0,-9)=0");
        // A claim that is OPEN keeps its longs, and is OPEN and without an ENTRY yet.
        run(begun(2, "2|4"), "batch(0,0,2)=0 fill(0,0,0..7,5)=1 fill(0,0,-1|8,9)=FOUND fill(0,2,0,9)=NOT",
            "fill(1,0,0,9)=NUMBER copy(0,0,0,0,9)=FOUND copy(0,0,0,-1,3)=FOUND copy(0,0,2,0,8)=NUMBER",
            "copy(0,2,0,0,8)=NOT publish(0,0,32,0)=NUMBER publish(0,0,0,9)=NUMBER publish(0,2,0,0)=NOT told(0,2)=2",
            "of(1,6)=0 read(0)=0 publish(0,0,7,2)=1 publish(0,0,8,3)=NOT fill(0,0,0,9)=NOT copy(0,0,1,0,8)=NOT",
            "of(1,6)=1 entry(1,0)=7 read(0|1)=1 word(0|1,0..7)=5 got(0,3..4)=7|2 got(1,3..4)=7|2");
        // A ring that isn't given back is there as before, one that isn't closed again, too.
        run(begun(2, "2"), "claim(0,0)=0 give(0)=HELD told(0,6)=0 fill(0,0,0,1)=1 publish(0,0,0,0)=1 give(0)=HELD",
            "told(0,6)=0 claim(0,0)=1 close(0)=1 close(0)=CLOSED told(0,6)=1 publish(0,1,0,0)=1 read(0)=1 word(0,0)=1",
            "give(0)=HELD read(0)=1 give(0)=1 give(0)=GIVEN close(0)=GIVEN told(0,6)=2");
        run("ring(1)=0 close(0)=STATE give(0)=STATE told(0,6)=0 begin()=1 close(1)=NUMBER give(-1)=NUMBER",
            "claim(0,0)=0");
        // What they do change: again(), by(), circle() and found().
        run(begun(1, "2"), "again()=FOUND by()=-1 claim(0,0)=0 claim(0,0)=HELD again()=HELD by()=0 batch(0,0,2)=NUMBER",
            "again()=NUMBER by()=0 found(0)=6 fill(0,0,8,0)=FOUND found(0)=2 again()=NUMBER");
    }

    private void refusedReaders() {
        run("ring(1)=0 reader(2,0,0)=0 reader(3,0,0)=1 read(0|1)=STATE round()=STATE why(0)=STATE of(0|1,8)=0",
            "place(0|1,0)=0");
        for (int kind : new int[] {1, 2, 6, 7}) {
            run("ring(2*2)=0|1 reader(3,0,0)=0 reader(" + kind + ",0," + (kind == 6 ? 0 : 1) + ")=1 begin()=1",
                post(0, 0, 0, 4, 5), "read(0|1)=1 told(1,1)=" + (kind == 7 ? 1 : 0) + " give(0)=1 read(1)=FOUND",
                "of(1,8)=1 place(1,0)=" + (kind == 1 ? -1 : 1) + " got(1,0..4)=0|0|4|5|0 of(1,3..5)=0|-1|-1",
                "told(1,1)=" + (kind == 7 ? 1 : 0) + " read(2|-1)=FOUND of(0|1,8)=1");
        }
        // Reading of MISSES, as told: PLACE, SPAN and what was MISSED.
        run(begun(2, "3"), post(0, 0, 2, 4, 5), "read(0)=1 got(0,1)=1 give(0)=1 read(0)=FOUND of(0,2..5)=3|2|2|2",
            "of(0,8)=1 got(0,0..4)=0|1|4|5|0");
    }

    private void firstRefusal() {
        sentence(FIRST_NAMED);
        // Each call has all the pairs of its refusals under its promise; here is one pair of each.
        run("ring(1*8)=0..7 ring(-1)=FOUND ring(3)=NUMBER reader(6,0,0)=NUMBER reader(1,0,0)=0 reader(6,0,0)=KIND",
            "join(0,8)=NUMBER join(0,0)=KIND name(0,0)=KIND claim(8,0)=NUMBER batch(0,0,2)=NUMBER fill(8,0,0,0)=NUMBER",
            "fill(0,0,8,0)=STATE copy(0,0,1,0,9)=NUMBER copy(0,0,0,0,9)=STATE publish(0,0,32,0)=NUMBER",
            "publish(0,0,0,0)=STATE close(8)=NUMBER give(8)=NUMBER told(8,7)=NUMBER of(1,9)=NUMBER read(1)=STATE",
            "why(1)=STATE begin()=1 ring(-1)=FOUND ring(1)=STATE reader(6,0,0)=STATE join(0,0)=STATE name(0,0)=STATE",
            "claim(0,0)=0 claim(0,-1)=FALLS close(0)=1 claim(0,-1)=CLOSED fill(0,1,8,0)=NOT copy(0,1,0,0,9)=NOT",
            "publish(0,0,0,0)=1 give(0)=1 claim(0,-1)=GIVEN close(0)=GIVEN fill(0,1,8,0)=FOUND found(0)=1",
            "publish(0,1,0,0)=GIVEN why(1)=NUMBER");
    }

    private void constants() {
        sentence("The constants: NUMBER = -1: A number is none, or none that may be.");
        run("ring(0)=-1 ring(1)=0 reader(8,0,0)=-1 begin()=1 claim(1,0)=-1 batch(0,0,2)=-1");
        sentence("STATE = -2: The post has begun, or has not.");
        run("round()=-2 begin()=1 begin()=-2");
        sentence("KIND = -3: A reader is of a kind for which that can't be, or has no PLACE in the ring.");
        run("ring(1*2)=0|1 reader(1,0,0)=0 join(0,1)=-3 reader(6,0,0)=-3 reader(7,0,1)=1 name(1,0)=-3");
        sentence("FULL = -4: There are as many as may be.");
        run("ring(1*8)=0..7 ring(1)=-4 reader(2*16,0,0)=0..15 reader(2,0,0)=-4");
        sentence("THERE = -5: That is so already.");
        run("ring(1*2)=0|1 reader(5,0,1)=0 join(0,0)=-5 reader(6,0,0)=1 name(1,0)=-5");
        sentence("CIRCLE = -6: Readers would name one another in a circle.");
        run("ring(1*2)=0|1 reader(7,0,1)=0 reader(6,0,0)=1 name(0,1)=-6");
        sentence("GIVEN = -7: The ring is GIVEN.");
        run("ring(1)=0 begin()=1 give(0)=1 claim(0,0)=-7 publish(0,0,0,0)=-7 close(0)=-7 give(0)=-7");
        sentence("CLOSED = -8: The ring is CLOSED.");
        run("ring(1)=0 begin()=1 close(0)=1 claim(0,0)=-8 batch(0,0,1)=-8 close(0)=-8");
        sentence("FALLS = -9: The STAMP is below LAST.");
        run("ring(2)=0 begin()=1 claim(0,0)=0 claim(0,-1)=-9 batch(0,-1,1)=-9");
        sentence("HELD = -10: A claim is HELD UP.");
        run("ring(1)=0 begin()=1 claim(0,0)=0 claim(0,0)=-10 batch(0,0,1)=-10 give(0)=-10");
        sentence("NOT = -11: There is no such claim that is OPEN.");
        run("ring(1)=0 reader(1,0,0)=0 begin()=1 fill(0,0,0,0)=-11 copy(0,0,0,0,0)=-11 publish(0,0,0,0)=-11");
        sentence("FOUND = -12: A FINDING.");
        run("ring(-1)=-12 again()=-12 told(0,0)=-12");
    }
}
