/** Promises 9 to 19, of writers, sentence by sentence. */
final class WritersSentences extends Sentences {
    private static final int[] SLOTS = {1, 2, 4, 8, 16, 32, 64};
    private static final String NO_RING_OF_TWO = "MIN|-1|2|7|8|MAX";
    private static final String EIGHT_RINGS = "ring(2*8)=0..7 begin()=1 ";
    /** Ring 0 is GIVEN, and CLOSED before that; its one claim had STAMP 5. Reader 0 is a SEES. */
    private static final String GIVEN_AT_FIVE = begun(1, "1") + post(0, 0, 0, 5, 0) + "close(0)=1 give(0)=1 ";

    WritersSentences(Checks checks, Document document) {
        super(checks, document);
    }

    @Override
    void all() {
        claim();
        claimRefusals();
        batch();
        batchRefusals();
        batchHeld();
        by();
        again();
        fill();
        fillRefusals();
        copy();
        copyRefusals();
        copyBounds();
        publish();
        publishRefusals();
        close();
        give();
        giveHeld();
        told();
        toldHolders();
        toldRefusals();
        last();
        endSentence();
    }

    private void claim() {
        section("promise 9");
        sentence("A claim is made: its number.");
        run(begun(2, "2"), "claim(0,3)=0 told(0,1..2)=1|1 last(0)=3 claim(0,3)=1 told(0,1..2)=2|2 publish(0,0,0,0)=1",
            "read(0)=1 claim(0,4)=2 told(0,1..2)=3|2 last(0)=4");
        run(EIGHT_RINGS, "claim(0..7,0)=0 claim(0..7,0)=1 told(0..7,1)=2");
        // Past the end of each ring.
        for (int slots : SLOTS) {
            run(begun(slots, "1"), post(0, 0, 2 * slots + 1, 0, 0), "told(0,1)=" + (2 * slots + 2));
        }
    }

    private void claimRefusals() {
        sentence("NUMBER: there is no such ring;");
        run("claim(0,0)=NUMBER ring(1*2)=0|1 begin()=1 claim(" + NO_RING_OF_TWO + ",0)=NUMBER told(0|1,1)=0",
            "claim(0|1,0)=0");
        run(EIGHT_RINGS, "claim(-1|8,0)=NUMBER claim(0|7,0)=0");

        sentence("STATE: the post has not begun;");
        run("ring(1)=0 claim(0,0)=STATE told(0,1)=0 begin()=1 claim(0,0)=0");

        sentence("GIVEN; CLOSED;");
        run(begun(1, "1"), "give(0)=1 claim(0,0)=GIVEN told(0,1)=0");
        run(begun(1, "1"), "close(0)=1 claim(0,0)=CLOSED told(0,1)=0");

        sentence("FALLS: stamp is below LAST (if there was a claim);");
        // One below LAST, the same, one above; before the first claim any stamp will do.
        run(begun(8, "1"), "claim(0,5)=0 claim(0,4)=FALLS told(0,1)=1 last(0)=5 claim(0,5)=1 claim(0,6)=2",
            "claim(0,5)=FALLS last(0)=6 claim(0,MIN)=FALLS claim(0,MAX)=3 claim(0,9223372036854775806)=FALLS",
            "claim(0,MAX)=4");
        run(begun(8, "1"), "claim(0,-1)=0 last(0)=-1 claim(0,-2)=FALLS claim(0,-1)=1 claim(0,0)=2");
        run(begun(8, "1"), "claim(0,MIN)=0 claim(0,MIN)=1 claim(0,-9223372036854775807)=2 claim(0,MIN)=FALLS");
        // LAST of this ring, not of another one; a refused claim's stamp is none.
        run("ring(1*2)=0|1 begin()=1 claim(0,9)=0 claim(0,99)=HELD claim(1,3)=0 publish(0,0,0,0)=1 claim(0,10)=1");

        sentence("HELD.");
        run(begun(2, "2"), "claim(0,0)=0 claim(0,0)=1 claim(0,0)=HELD told(0,1)=2 publish(0,0,0,0)=1 claim(0,0)=HELD",
            "read(0)=1 claim(0,0)=2 claim(0,0)=HELD");
        for (int slots : SLOTS) {
            run(begun(slots, "1"), each(0, slots - 1, "claim(0,0)=#"), "claim(0,0)=HELD publish(0,0,0,0)=1",
                "claim(0,0)=" + slots,
                "claim(0,0)=HELD");
        }

        firstNamed();
        // NUMBER ahead of STATE; GIVEN ahead of CLOSED and FALLS; CLOSED ahead of FALLS and HELD; FALLS ahead of HELD.
        run("ring(1)=0 claim(1,0)=NUMBER claim(-1,0)=NUMBER claim(0,0)=STATE");
        run(GIVEN_AT_FIVE, "claim(0,5)=GIVEN claim(0,4)=GIVEN");
        run(begun(1, "1"), "claim(0,5)=0 claim(0,5)=HELD close(0)=1 claim(0,4)=CLOSED claim(0,5)=CLOSED",
            "claim(0,6)=CLOSED");
        run(begun(1, "2"), "claim(0,5)=0 claim(0,4)=FALLS by()=-1 claim(0,5)=HELD by()=0");
    }

    private void batch() {
        section("promise 10");
        sentence("n claims of one STAMP are made, one behind the other, or none: the number of the first.");
        run(begun(8, "2"), "batch(0,5,3)=0 told(0,1..2)=3|3 last(0)=5 batch(0,6,1)=3 batch(0,7,2)=4 told(0,1..2)=6|6",
            "last(0)=7",
            each(0, 5, "fill(0,#,0,3#)=1 publish(0,#,#,1)=1"), each(0, 2, "read(0)=1 got(0,1..3)=#|5|# word(0,0)=3#"),
            "read(0)=1 got(0,1..2)=3|6 read(0)=1 got(0,1..2)=4|7 read(0)=1 got(0,1..2)=5|7 read(0)=0");
        // Or none: as many as would be free aren't made.
        run(begun(4, "1"), "batch(0,5,3)=0 batch(0,6,2)=HELD told(0,1..2)=3|3 last(0)=5 publish(0,3,0,0)=NOT",
            "batch(0,6,1)=3");
        // A whole ring, twice, past its end.
        for (int slots : SLOTS) {
            run(begun(slots, "1"), "batch(0,0," + slots + ")=0 publish(0,0.." + (slots - 1) + ",0,0)=1",
                "batch(0,1," + slots + ")=" + slots,
                "told(0,1..2)=" + 2 * slots + "|" + slots + " last(0)=1 batch(0,1,1)=HELD read(0)=0");
        }
    }

    private void batchRefusals() {
        sentence("NUMBER: there is no such ring, n isn't 1 .. SLOTS;");
        run("batch(0,0,1)=NUMBER ring(1*2)=0|1 begin()=1 batch(" + NO_RING_OF_TWO + ",0,1)=NUMBER batch(0|1,0,1)=0");
        run(EIGHT_RINGS, "batch(-1|8,0,1)=NUMBER batch(0|7,0,2)=0 told(0|7,1)=2");
        for (int slots : SLOTS) {
            run(begun(slots, "1"), "batch(0,0,MIN|-1|0|" + (slots + 1) + "|" + (2 * slots + 1) + "|MAX)=NUMBER",
                "told(0,1)=0 batch(0,0," + slots + ")=0 told(0,1)=" + slots);
            run(begun(slots, "1"), "batch(0,0,1)=0 told(0,1)=1");
        }

        sentence("STATE: the post has not begun;");
        run("ring(4)=0 batch(0,0,1|4)=STATE told(0,1)=0 begin()=1 batch(0,0,4)=0");

        sentence("GIVEN; CLOSED; FALLS;");
        run(begun(4, "1"), "give(0)=1 batch(0,0,1|4)=GIVEN told(0,1)=0");
        run(begun(4, "1"), "close(0)=1 batch(0,0,1|4)=CLOSED told(0,1)=0");
        run(begun(8, "1"), "batch(0,5,2)=0 batch(0,4,1)=FALLS batch(0,MIN,2)=FALLS last(0)=5 told(0,1)=2",
            "batch(0,5,2)=2 batch(0,6,1)=4");
        run(begun(8, "1"), "batch(0,-3,2)=0 batch(0,-4,1)=FALLS batch(0,-3,1)=2");

        firstNamed();
        // NUMBER ahead of all; STATE ahead of all others; GIVEN ahead of CLOSED and FALLS; CLOSED ahead of FALLS and
        // HELD; FALLS ahead of HELD.
        run("ring(1)=0 batch(0,0,0|2)=NUMBER batch(1,0,1)=NUMBER batch(0,0,1)=STATE");
        run(GIVEN_AT_FIVE, "batch(0,5,1)=GIVEN batch(0,4,1)=GIVEN batch(0,4,0|2)=NUMBER");
        run(begun(1, "2"), "batch(0,5,1)=0 batch(0,4,2)=NUMBER batch(0,4,1)=FALLS by()=-1 batch(0,5,1)=HELD by()=0",
            "close(0)=1 batch(0,4,1)=CLOSED batch(0,5,1)=CLOSED batch(0,5,0)=NUMBER");
    }

    private void batchHeld() {
        sentence("HELD: some of these would be HELD UP when its turn comes (BY is then that of the first such one).");
        // The first, the second, the last of four; by claims that are OPEN.
        for (int open = 0; open < 4; open++) {
            run(begun(4, "1"), "batch(0,0,4)=0", eachBut(open, 0, 3, "publish(0,#,0,0)=1"),
                "batch(0,0,4)=HELD by()=-1 told(0,1)=4", open == 0 ? "claim(0,0)=HELD" : "batch(0,0," + open + ")=4");
        }
        // By a HOLDER: so many are free as it has read.
        for (int read = 0; read < 4; read++) {
            run(begun(4, "2"), "batch(0,0,4)=0 publish(0,0..3,0,0)=1",
                each(1, read, "read(0)=1 place(0,0)=#") + "by()=-1 batch(0,0," + (read + 1) + ")=HELD by()=0",
                "told(0,1)=4", read == 0 ? "" : "batch(0,0," + read + ")=4");
        }
        // BY of the first one that is HELD UP, not of one behind it: PLACES are 3, 1 and 2, then 3, 4 and 2, then 3, 4
        // and 4.
        run(begun(4, "2|2|2"), "batch(0,0,4)=0 publish(0,0..3,0,0)=1 read(0*3)=1 read(1)=1 read(2*2)=1",
            "batch(0,0,4)=HELD by()=1 read(1*3)=1 batch(0,0,4)=HELD by()=2 read(2*2)=1 batch(0,0,4)=HELD by()=0",
            "read(0)=1 batch(0,0,4)=4");
        // The second of two, by a HOLDER and then by a claim that is OPEN, too; at last the first of two.
        run(begun(2, "2|1"), post(0, 0, 0, 0, 0), "read(0)=1 claim(0,0)=1 publish(0,1,0,0)=1 batch(0,0,2)=HELD by()=0",
            "read(0)=1 claim(0,0)=2 batch(0,0,2)=HELD by()=0 claim(0,0)=3 batch(0,0,2)=HELD by()=0");
        // Without a HOLDER.
        run("ring(2)=0 reader(3,0,0)=0 begin()=1 batch(0,0,2)=0 publish(0,1,0,0)=1 batch(0,0,1|2)=HELD by()=-1");
        // n at most SLOTS, while there were fewer claims: only those from claim SLOTS on can be HELD UP.
        run(begun(4, "2"), "batch(0,0,4)=0");
        run(begun(4, "2"), "claim(0,0)=0 batch(0,0,3)=1");
        run(begun(4, "2"), "claim(0,0)=0 batch(0,0,4)=HELD by()=0 told(0,1)=1");
    }

    private void by() {
        section("promise 11");
        sentence("BY of the latest claim() or batch() that answered HELD;");
        run(begun(1, "1|2|2"), post(0, 0, 0, 0, 0), "claim(0,0)=HELD by()=1 by()=1 read(1)=1 by()=1 batch(0,0,1)=HELD",
            "by()=2",
            // Other refusals of them, claims that are made, and HELD of give() leave it.
            "claim(0,-1)=FALLS by()=2 claim(1,0)=NUMBER batch(0,0,2)=NUMBER by()=2 give(0)=HELD by()=2 read(2)=1",
            "claim(0,0)=1 by()=2 told(0,5)=1 by()=2 claim(0,0)=HELD by()=1 close(0)=1 claim(0,0)=CLOSED by()=1");
        run("ring(1*2)=0|1 reader(2,0,0)=0 begin()=1", post(0, 0, 0, 0, 0), "claim(0,0)=HELD by()=0 claim(1,0)=0",
            "batch(1,0,1)=HELD by()=-1 batch(0,0,1)=HELD by()=0 claim(1,0)=HELD by()=-1");
        // The greatest reader.
        run("ring(1)=0 reader(1*15,0,0)=0..14 reader(2,0,0)=15 begin()=1", post(0, 0, 0, 0, 0), "claim(0,0)=HELD",
            "by()=15");

        sentence("-1 if there was none.");
        run("by()=-1 ring(1)=0 reader(2,0,0)=0 begin()=1 by()=-1 claim(0,5)=0 claim(0,4)=FALLS claim(1,0)=NUMBER",
            "by()=-1 give(0)=HELD told(0,5)=1 by()=-1");
        // An ECHO that waits for its TARGET asks neither claim() nor batch().
        run("ring(1*2)=0|1 reader(7,0,1)=0 reader(2,1,0)=1 begin()=1", post(0, 0, 0, 0, 0), post(1, 0, 0, 0, 0),
            "read(0)=0 why(0)=5 by()=-1 again()=FOUND");
    }

    private void again() {
        section("promise 12");
        sentence("The latest refusal that claim() or batch() answered is thrown once more, and caught: it.");
        for (String call : new String[] {"claim(%d,%d)", "batch(%d,%d,1)"}) {
            run("ring(1*2)=0|1 reader(2,0,0)=0", String.format(call, 0, 0) + "=STATE again()=STATE again()=STATE",
                String.format(call, 2, 0) + "=NUMBER again()=NUMBER begin()=1", String.format(call, 0, 5) + "=0",
                "again()=NUMBER",
                String.format(call, 0, 5) + "=HELD again()=HELD", String.format(call, 0, 4) + "=FALLS again()=FALLS",
                "close(0)=1",
                String.format(call, 0, 5) + "=CLOSED again()=CLOSED give(1)=1", String.format(call, 1, 0) + "=GIVEN",
                "again()=GIVEN found(0..6)=0 told(0,1)=1");
        }
        // Refusals of all other calls leave it; it is refused once more, and nothing is claimed by it.
        run(begun(2, "2"), "claim(0,5)=0 claim(0,4)=FALLS ring(3)=NUMBER ring(-1)=FOUND reader(8,0,0)=NUMBER",
            "join(0,1)=NUMBER name(1,0)=NUMBER begin()=STATE fill(0,1,0,0)=NOT fill(0,0,8,0)=FOUND",
            "copy(0,0,0,0,9)=FOUND publish(0,1,0,0)=NOT close(1)=NUMBER give(0)=HELD read(1)=FOUND why(1)=NUMBER",
            "told(0,7)=NUMBER again()=FALLS told(0,1)=1 claim(0,6)=1 again()=FALLS told(0,1)=2");

        sentence("FOUND: NONE: there was none yet.");
        run("again()=FOUND found(0)=6 found(6)=1 again()=FOUND found(6)=2 ring(1)=0 ring(-1)=FOUND begin()=1",
            "begin()=STATE claim(0,0)=0 publish(0,5,0,0)=NOT again()=FOUND found(0)=6 found(6)=3 claim(0,0)=HELD",
            "again()=HELD found(6)=3");
    }

    private void fill() {
        section("promise 13");
        sentence("Long i of a claim that is OPEN is v: 1.");
        run(begun(2, "2"), "batch(0,0,2)=0", each(0, 7, "fill(0,0,#,10#)=1"), "fill(0,0,3,MIN)=1 fill(0,1,0,MAX)=1",
            "fill(0,1,7,-1)=1 publish(0,0|1,0,0)=1 read(0)=1 word(0,0..7)=100|101|102|MIN|104|105|106|107 read(0)=1",
            "word(0,0..7)=MAX|0|0|0|0|0|0|-1");
        // The last fill counts, whatever LENGTH is told then; and of several claims each has its own longs.
        run(begun(4, "2"), "batch(0,0,4)=0 fill(0,3,0,3)=1 fill(0,2,0,2)=1 fill(0,1,0,1)=1 fill(0,0,0,9)=1",
            "fill(0,0,0,8)=1 publish(0,0..3,0,0)=1", "read(0)=1 word(0,0)=8", each(1, 3, "read(0)=1 word(0,0)=#"));
        // Past the ring's end.
        run(begun(2, "2"),
            each(0, 9, "claim(0,0)=# fill(0,#,7,#)=1 publish(0,#,0,0)=1 read(0)=1 word(0,7)=# word(0,6)=0"));
        run(EIGHT_RINGS, "claim(0|7,0)=0 fill(0|7,0,0|7,5)=1");
    }

    private void fillRefusals() {
        sentence("NUMBER: there is no such ring;");
        run("fill(0,0,0,0)=NUMBER ring(1*2)=0|1 begin()=1 claim(0|1,0)=0 fill(" + NO_RING_OF_TWO + ",0,0,0)=NUMBER",
            "found(0)=0");
        run(EIGHT_RINGS, "claim(0|7,0)=0 fill(-1|8,0,0,0)=NUMBER fill(0|7,0,0,0)=1");

        sentence("STATE: the post has not begun;");
        run("ring(1)=0 fill(0,0,0,0)=STATE begin()=1 claim(0,0)=0 fill(0,0,0,0)=1");

        sentence("FOUND: MISSING: it is GIVEN;");
        run(begun(1, "1"), "give(0)=1 fill(0,0,0,0)=FOUND found(0..2)=1|1|0");

        sentence("NOT: q is no claim that is OPEN;");
        run(begun(4, "1"), "fill(0,MIN|-1|0|1|MAX,0,0)=NOT batch(0,0,3)=0 fill(0,MIN|-4|-1|3|4|MAX,0,0)=NOT",
            "fill(0,0|2,0,0)=1 publish(0,1,0,0)=1 fill(0,1,0,0)=NOT found(0)=0");
        // Claims that are LOST: their slots have other claims, which are OPEN.
        run(begun(2, "1"), post(0, 0, 1, 0, 0), "batch(0,0,2)=2 fill(0,0|1,0,7)=NOT fill(0,4|5,0,7)=NOT",
            "publish(0,2|3,0,0)=1 read(0)=1 word(0,0)=0");
        // A ring that is CLOSED has claims that are OPEN.
        run(begun(1, "2"), "claim(0,0)=0 close(0)=1 fill(0,0,0,6)=1 publish(0,0,0,0)=1 fill(0,0,0,7)=NOT read(0)=1",
            "word(0,0)=6");

        sentence("FOUND: BEYOND: i isn't 0 .. 7.");
        run(begun(1, "2"), "claim(0,0)=0 fill(0,0,0|7,4)=1 found(0)=0 fill(0,0,MIN|-1|8|9|MAX,5)=FOUND",
            "found(0..2)=2|0|5 publish(0,0,0,0)=1 read(0)=1 word(0,0..7)=4|0|0|0|0|0|0|4");

        firstNamed();
        // NUMBER, STATE, MISSING, NOT and BEYOND each ahead of the others behind it.
        run("ring(1)=0 fill(1,0,8,0)=NUMBER fill(0,0,8,0)=STATE found(0)=0 begin()=1 fill(1,0,8,0)=NUMBER",
            "fill(0,0,8,0)=NOT found(0)=0 give(0)=1 fill(1,0,8,0)=NUMBER fill(0,0,8,0)=FOUND found(0..2)=1|1|0");
    }

    /** Reader 0 got a claim of ring 0 with longs 10 .. 17, and claim 1 there is OPEN with longs 90 .. 97. */
    private static String withLongs() {
        return begun(4, "2|2") + "batch(0,0,4)=0 " + each(0, 7, "fill(0,0,#,1#)=1 fill(0,1,#,9#)=1")
            + "publish(0,0,0,0)=1 read(0)=1 ";
    }

    private void copy() {
        section("promise 14");
        sentence("n longs of what a reader got (all 0 if it got nothing), from one on, come to a claim that is OPEN, "
            + "from its first one on: 1.");
        for (int from = 0; from <= 8; from++) {
            for (int n = 0; n <= 8 - from; n++) {
                StringBuilder due = new StringBuilder();
                for (int i = 0; i < 8; i++) {
                    due.append(i == 0 ? "" : "|").append(i < n ? 10 + from + i : 90 + i);
                }
                run(withLongs(), "copy(0,1,0," + from + "," + n + ")=1 publish(0,1,0,0)=1 read(0)=1",
                    "word(0,0..7)=" + due);
            }
        }
        run(withLongs(), "copy(0,1,1,0,8)=1 publish(0,1,0,0)=1 read(0)=1 word(0,0..7)=0");
        run(withLongs(), "copy(0,1,1,5,3)=1 publish(0,1,0,0)=1 read(0)=1 word(0,0..7)=0|0|0|93|94|95|96|97");
        // What is copied stays what it was when it was copied; the reader keeps what it got.
        run(withLongs(), "copy(0,1,0,0,8)=1 fill(0,1,0,77)=1 word(0,0..7)=10..17 copy(0,2,0,0,8)=1 publish(0,1,0,0)=1",
            "read(0)=1 word(0,0..7)=77|11..17 publish(0,2,0,0)=1 read(0)=1 word(0,0..7)=10..17");
        // To another ring; by the least and the greatest ring and reader.
        run("ring(2*8)=0..7 reader(2*15,0,0)=0..14 reader(2,7,0)=15 begin()=1 claim(0,0)=0 fill(0,0,7,5)=1",
            "publish(0,0,0,0)=1 read(0)=1 claim(7,0)=0 copy(7,0,0,7,1)=1 publish(7,0,0,0)=1 read(15)=1",
            "word(15,0..7)=5|0|0|0|0|0|0|0 claim(0,0)=1 copy(0,1,15,0,2)=1 publish(0,1,0,0)=1 read(0)=1",
            "word(0,0..7)=5|0|0|0|0|0|0|0");
    }

    private void copyRefusals() {
        sentence("NUMBER: there is no such ring, no such reader;");
        run("copy(0,0,0,0,0)=NUMBER ring(1*2)=0|1 copy(0,0,0,0,0)=NUMBER reader(2*2,0,0)=0|1 begin()=1 claim(0|1,0)=0",
            "copy(" + NO_RING_OF_TWO + ",0,0,0,1)=NUMBER copy(0,0,MIN|-1|2|15|16|MAX,0,1)=NUMBER copy(0|1,0,0|1,0,1)=1",
            "found(0)=0");
        run("ring(1*8)=0..7 reader(1*16,0,0)=0..15 begin()=1 claim(0|7,0)=0 copy(-1|8,0,0,0,1)=NUMBER",
            "copy(0|7,0,-1|16,0,1)=NUMBER copy(0|7,0,0|15,0,8)=1");

        sentence("STATE: the post has not begun;");
        run("ring(1)=0 reader(1,0,0)=0 copy(0,0,0,0,1)=STATE begin()=1 claim(0,0)=0 copy(0,0,0,0,1)=1");

        sentence("FOUND: MISSING: it is GIVEN;");
        run(begun(1, "1"), "give(0)=1 copy(0,0,0,0,1)=FOUND found(0..1)=1|1 found(5)=0");
        // The reader's ring may be GIVEN.
        run("ring(1*2)=0|1 reader(2,1,0)=0 reader(2,0,0)=1 begin()=1 claim(1,0)=0 fill(1,0,2,3)=1 publish(1,0,0,0)=1",
            "read(0)=1 give(1)=1 claim(0,0)=0 copy(0,0,0,2,1)=1 publish(0,0,0,0)=1 read(1)=1 word(1,0)=3");

        sentence("NOT: q is no claim that is OPEN;");
        run(begun(4, "1"), "copy(0,MIN|-1|0|1|MAX,0,0,1)=NOT batch(0,0,3)=0 copy(0,MIN|-4|-1|3|4|MAX,0,0,1)=NOT",
            "copy(0,0|2,0,0,1)=1 publish(0,1,0,0)=1 copy(0,1,0,0,1)=NOT copy(0,1,0,0,0)=NOT found(0)=0");
        run(begun(2, "1|1"), "claim(0,0)=0 fill(0,0,0,6)=1 publish(0,0,0,0)=1 read(0)=1 claim(0,0)=1",
            "publish(0,1,0,0)=1 batch(0,0,2)=2 copy(0,0|1,0,0,8)=NOT copy(0,4|5,0,0,8)=NOT publish(0,2|3,0,0)=1",
            "read(1)=1 word(1,0)=0");
        // A ring that is CLOSED has claims that are OPEN.
        run(withLongs(), "close(0)=1 copy(0,1,0,0,8)=1 publish(0,1,0,0)=1 copy(0,1,0,0,8)=NOT read(0)=1",
            "word(0,0..7)=10..17");
    }

    private void copyBounds() {
        sentence("FOUND: COPY: from or n is below 0, or from + n (by whole numbers without end) above 8.");
        run(withLongs(), "copy(0,1,0,-1,0|1|8|9)=FOUND copy(0,1,0,MIN,0|8|MIN|MAX)=FOUND copy(0,1,0,0|1|8|9,-1)=FOUND",
            "copy(0,1,0,0|8|MAX,MIN)=FOUND found(0)=5 found(5)=15 publish(0,1,0,0)=1 read(0)=1 word(0,0..7)=90..97");
        // Above 8 by one, with each from; and 8 itself.
        run(withLongs(), each(0, 8, "copy(0,1,0,#,9)=FOUND"), "copy(0,1,0,8,1)=FOUND copy(0,1,0,7,2)=FOUND",
            "copy(0,1,0,6,3)=FOUND copy(0,1,0,5,4)=FOUND copy(0,1,0,4,5)=FOUND copy(0,1,0,3,6)=FOUND",
            "copy(0,1,0,2,7)=FOUND copy(0,1,0,1,8)=FOUND copy(0,1,0,9,0)=FOUND found(5)=18 copy(0,1,0,8,0)=1",
            "copy(0,1,0,7,1)=1 found(5)=18");
        // By whole numbers without end: sums that would wrap around.
        run(withLongs(), "copy(0,1,0,MAX,MAX)=FOUND copy(0,1,0,MAX,0|1|2|8)=FOUND copy(0,1,0,0|1|2|8,MAX)=FOUND",
            "copy(0,1,0,8,2147483640)=FOUND copy(0,1,0,2147483640,8)=FOUND copy(0,1,0,1073741824,1073741824)=FOUND",
            "found(5)=12 found(1|2|3|4|6)=0 publish(0,1,0,0)=1 read(0)=1 word(0,0..7)=90..97");

        firstNamed();
        // NUMBER, STATE, MISSING, NOT and COPY each ahead of the others behind it.
        run("ring(1)=0 reader(1,0,0)=0 copy(1,0,0,0,9)=NUMBER copy(0,0,1,0,9)=NUMBER copy(0,0,0,0,9)=STATE begin()=1",
            "copy(1,0,0,0,9)=NUMBER copy(0,0,1,0,9)=NUMBER copy(0,0,0,0,9)=NOT found(0)=0 give(0)=1",
            "copy(0,0,1,0,9)=NUMBER copy(0,0,0,0,9)=FOUND found(0)=1 found(5)=0");
    }

    private void publish() {
        section("promise 15");
        sentence("A claim that is OPEN is PUBLISHED: 1.");
        run(begun(4, "2|1|4"), "batch(0,5,4)=0 publish(0,2,31,8)=1 told(0,2)=3 read(0)=0 read(1)=1",
            "got(1,1..4)=2|5|31|8 entry(2,0)=31 publish(0,0,7,5)=1 told(0,2)=2 read(0)=1 got(0,1..4)=0|5|7|5",
            "publish(0,3,0,0)=1 publish(0,1,1,1)=1 told(0,2)=0",
            each(1, 3, "read(0)=1 got(0,1)=#"), "of(2,6)=4");
        // Of a ring that is CLOSED, too; and in the slots of claims that are LOST.
        run(begun(1, "2"), "claim(0,0)=0 close(0)=1 publish(0,0,3,3)=1 read(0)=1 got(0,3..4)=3|3");
        run(begun(2, "1"), each(0, 9, "claim(0,0)=# publish(0,#,#,0)=1 read(0)=1 got(0,1..3)=#|0|#"));
    }

    private void publishRefusals() {
        sentence("NUMBER: there is no such ring, key isn't 0 .. 31, length not 0 .. 8;");
        run("publish(0,0,0,0)=NUMBER ring(1*2)=0|1 begin()=1 claim(0|1,0)=0",
            "publish(" + NO_RING_OF_TWO + ",0,0,0)=NUMBER told(0|1,2)=1 publish(0|1,0,0,0)=1");
        run(EIGHT_RINGS, "claim(0|7,0)=0 publish(-1|8,0,0,0)=NUMBER publish(0|7,0,0,0)=1");
        run(begun(1, "2|4"), "claim(0,0)=0 publish(0,0,MIN|-1|32|33|MAX,0)=NUMBER",
            "publish(0,0,0|31,MIN|-1|9|10|MAX)=NUMBER told(0,2)=1 of(1,6)=0 publish(0,0,0,0)=1 read(0|1)=1",
            "got(0,3..4)=0|0 claim(0,0)=1 publish(0,1,31,8)=1 read(0|1)=1 got(1,3..4)=31|8");
        // All keys, and all lengths.
        run(begun(1, "2"), each(0, 31, "claim(0,0)=# publish(0,#,#,0)=1 read(0)=1 got(0,3)=#"));
        run(begun(1, "2"), each(0, 8, "claim(0,0)=# publish(0,#,0,#)=1 read(0)=1 got(0,4)=#"));

        sentence("STATE: the post has not begun;");
        run("ring(1)=0 publish(0,0,0,0)=STATE begin()=1 claim(0,0)=0 publish(0,0,0,0)=1");

        sentence("GIVEN;");
        run(begun(1, "1"), "give(0)=1 publish(0,0,0,0)=GIVEN found(0)=0");
        run(begun(1, "1"), post(0, 0, 0, 0, 0), "give(0)=1 publish(0,0,0,0)=GIVEN");

        sentence("NOT: q is no claim that is OPEN.");
        run(begun(4, "4"), "publish(0,MIN|-1|0|1|MAX,0,0)=NOT batch(0,0,3)=0 publish(0,MIN|-4|-1|3|4|MAX,0,0)=NOT",
            "told(0,2)=3 of(0,6)=0 publish(0,0|2,0,0)=1 publish(0,0|2,1,1)=NOT told(0,2)=1 of(0,6)=1 found(0)=0");
        run(begun(2, "1"), post(0, 0, 1, 0, 0), "batch(0,0,2)=2 publish(0,0|1,0,0)=NOT publish(0,4|5,0,0)=NOT",
            "told(0,2)=2 read(0)=0");

        firstNamed();
        // NUMBER, STATE, GIVEN and NOT each ahead of the others behind it.
        run("ring(1)=0 publish(1,0,0,0)=NUMBER publish(0,0,32,0)=NUMBER publish(0,0,0,9)=NUMBER publish(0,0,0,0)=STATE",
            "begin()=1 publish(0,0,32,0)=NUMBER publish(0,0,0,9)=NUMBER publish(0,0,0,0)=NOT give(0)=1",
            "publish(0,0,32,0)=NUMBER publish(0,0,0,-1)=NUMBER publish(0,0,0,0)=GIVEN");
    }

    private void close() {
        section("promise 16");
        sentence("A ring is CLOSED: 1.");
        run("ring(1*2)=0|1 begin()=1 told(0|1,6)=0 close(0)=1 told(0|1,6)=1|0 claim(0,0)=CLOSED claim(1,0)=0",
            "close(1)=1 told(0|1,6)=1");
        // Also with claims that are OPEN, or HELD UP; they are published and read as before.
        run(begun(1, "2"), "claim(0,4)=0 close(0)=1 told(0,1..2)=1|1 last(0)=4 publish(0,0,0,0)=1 read(0)=1",
            "got(0,2)=4");
        run(EIGHT_RINGS, "close(0|7)=1 told(0..7,6)=1|0|0|0|0|0|0|1");

        sentence("NUMBER: there is no such ring;");
        run("close(0)=NUMBER ring(1*2)=0|1 begin()=1 close(" + NO_RING_OF_TWO + ")=NUMBER told(0|1,6)=0");
        run(EIGHT_RINGS, "close(-1|8)=NUMBER close(0|7)=1");

        sentence("STATE: the post has not begun;");
        run("ring(1)=0 close(0)=STATE told(0,6)=0 close(1)=NUMBER begin()=1 claim(0,0)=0");

        sentence("GIVEN;");
        run("ring(1*2)=0|1 begin()=1 give(0)=1 close(0)=GIVEN told(0,6)=2 close(1)=1 give(1)=1 close(1)=GIVEN",
            "told(1,6)=2");

        sentence("CLOSED: it is.");
        run("ring(1)=0 begin()=1 close(0)=1 close(0)=CLOSED close(0)=CLOSED told(0,6)=1");

        firstNamed();
        // NUMBER ahead of STATE; GIVEN ahead of CLOSED.
        run("ring(1)=0 close(1|-1)=NUMBER close(0)=STATE begin()=1 close(0)=1 close(0)=CLOSED give(0)=1",
            "close(0)=GIVEN");
    }

    private void give() {
        section("promise 17");
        sentence("A ring is GIVEN back: 1.");
        run("ring(1*2)=0|1 begin()=1 give(0)=1 told(0|1,6)=2|0 claim(0,0)=GIVEN claim(1,0)=0");
        run(begun(2, "2|4"), post(0, 0, 1, 4, 6), "read(0*2)=1", post(0, 2, 2, 4, 6), "read(0)=1 give(0)=1",
            "told(0,0..6)=2|3|0|3|1|0|2 last(0)=4 got(0,0..4)=0|2|4|6|0 read(1)=1 got(1,1)=2");
        run(begun(1, "2"), "close(0)=1 give(0)=1 told(0,6)=2");
        run(EIGHT_RINGS, "give(0|7)=1 told(0..7,6)=2|0|0|0|0|0|0|2");

        sentence("NUMBER: there is no such ring;");
        run("give(0)=NUMBER ring(1*2)=0|1 begin()=1 give(" + NO_RING_OF_TWO + ")=NUMBER told(0|1,6)=0");
        run(EIGHT_RINGS, "give(-1|8)=NUMBER give(0|7)=1");

        sentence("STATE: the post has not begun;");
        run("ring(1)=0 give(0)=STATE told(0,6)=0 give(1)=NUMBER begin()=1 claim(0,0)=0");

        sentence("GIVEN: it is;");
        run("ring(1*2)=0|1 begin()=1 give(0)=1 give(0)=GIVEN give(0)=GIVEN told(0,6)=2 close(1)=1 give(1)=1",
            "give(1)=GIVEN");
    }

    private void giveHeld() {
        sentence("HELD: a claim is OPEN, or a HOLDER's PLACE there is below CLAIMED.");
        // Each claim that is OPEN, the oldest and the newest, before and past the ring's end.
        for (int open = 0; open < 4; open++) {
            run(begun(4, "1"), "batch(0,0,4)=0", eachBut(open, 0, 3, "publish(0,#,0,0)=1"),
                "give(0)=HELD told(0,6)=0 publish(0," + open + ",0,0)=1 give(0)=1");
            run(begun(4, "1"), post(0, 0, 5, 0, 0), "batch(0,0,4)=6", eachBut(6 + open, 6, 9, "publish(0,#,0,0)=1"),
                "give(0)=HELD publish(0," + (6 + open) + ",0,0)=1 give(0)=1");
        }
        run(begun(1, "1"), post(0, 0, 0, 0, 0), "claim(0,0)=1 close(0)=1 give(0)=HELD publish(0,1,0,0)=1 give(0)=1");
        // A HOLDER's PLACE is CLAIMED - 1, then CLAIMED; any HOLDER.
        run(begun(4, "2|2"), post(0, 0, 1, 0, 0), "read(0*2)=1 give(0)=HELD read(1)=1 give(0)=HELD told(0,6)=0",
            "read(1)=1 give(0)=1");
        run(begun(4, "2|2"), post(0, 0, 1, 0, 0), "read(1*2)=1 give(0)=HELD read(0*2)=1 give(0)=1");
        // Of each kind; SEES, MISSES and FOLDS are no HOLDERS.
        for (int kind = 1; kind <= 7; kind++) {
            boolean holds = kind == 2 || kind >= 5;
            run("ring(4*2)=0|1 reader(3,0,0)=0 reader(" + kind + ",0," + (kind == 6 ? 0 : 1) + ")=1 begin()=1",
                post(0, 0, 0, 0, 0),
                holds ? "give(0)=HELD read(0)=1 read(1)=" + (kind == 5 ? "0 close(1)=1 read(1)=1" : "1") : "",
                "give(0)=1");
        }
        run("ring(4*2)=0|1 reader(5,0,1)=0 begin()=1", post(1, 0, 0, 0, 0), "give(1)=HELD give(0)=1 read(0)=1",
            "give(1)=1");
        // A HOLDER of another ring counts nothing; nor do claims of it that are OPEN.
        run("ring(1*2)=0|1 reader(2,1,0)=0 begin()=1 claim(1,0)=0 give(0)=1 give(1)=HELD");
        // That is none of the refusals of claim() and batch().
        run(begun(1, "2"), "claim(0,0)=0 give(0)=HELD by()=-1 again()=FOUND");

        firstNamed();
        // NUMBER ahead of STATE.
        run("ring(1)=0 give(1|-1)=NUMBER give(0)=STATE");
    }

    private void told() {
        section("promise 18");
        sentence("Of a ring: what = 0 SLOTS, 1 CLAIMED, 2 how many claims are OPEN,");
        run("ring(1|2|4|8|16|32|64)=0..6 told(0..6,0)=1|2|4|8|16|32|64 told(0..6,1..2)=0");
        run(begun(4, "1"), "told(0,0..2)=4|0|0 batch(0,0,4)=0 told(0,0..2)=4|4|4 publish(0,2,0,0)=1 told(0,0..2)=4|4|3",
            "publish(0,0,0,0)=1 told(0,0..2)=4|4|2 claim(0,0)=4 told(0,0..2)=4|5|3 publish(0,1|3|4,0,0)=1",
            "told(0,0..2)=4|5|0 claim(0,0)=5 claim(0,0)=6 told(0,0..2)=4|7|2 close(0)=1 told(0,0..2)=4|7|2",
            "publish(0,5|6,0,0)=1 give(0)=1 told(0,0..2)=4|7|0");
        run(begun(64, "1"), "batch(0,0,64)=0 told(0,1..2)=64|64 publish(0,63,0,0)=1 told(0,2)=63",
            "publish(0,0..62,0,0)=1 told(0,2)=0");

        sentence("5 1 if a claim would be HELD UP, else 0,");
        run(begun(2, "2"), "told(0,5)=0 claim(0,0)=0 told(0,5)=0 claim(0,0)=1 told(0,5)=1 publish(0,0,0,0)=1",
            "told(0,5)=1 read(0)=1 told(0,5)=0 claim(0,0)=2 told(0,5)=1 publish(0,1|2,0,0)=1 told(0,5)=1 close(0)=1",
            "told(0,5)=1 read(0*2)=1 told(0,5)=0 give(0)=1 told(0,5)=0");

        sentence("6 0 there, 1 CLOSED, 2 GIVEN.");
        run("ring(1*3)=0..2 told(0..2,6)=0 begin()=1 told(0..2,6)=0 close(1|2)=1 give(2)=1 told(0..2,6)=0|1|2",
            "give(0)=1 told(0,6)=2");
    }

    private void toldHolders() {
        sentence("3 the least PLACE of its HOLDERS (-1 without any), 4 how many HOLDERS,");
        run("ring(4*2)=0|1 told(0,3..4)=-1|0 reader(1|3|4,0,0)=0..2 told(0,3..4)=-1|0 reader(2,0,0)=3 told(0,3..4)=0|1",
            "reader(6,0,1)=4 reader(7,0,1)=5 reader(5,1,0)=6 told(0,3..4)=0|4 told(1,3..4)=0|1 begin()=1",
            post(0, 0, 1, 0, 0),
            "read(1*2)=1 told(0,3)=0 read(3*2)=1 told(0,3)=0 read(5)=1 told(0,3)=0 read(4)=1 told(0,3)=0 close(1)=1",
            "read(6)=1 told(0,3)=1 read(4)=1 told(0,3)=1 read(6)=1 told(0,3)=1 told(0,4)=4 told(1,3..4)=0|1");
        // The least one is the first, the middle, the last one in the order of numbers.
        for (int behind = 0; behind < 3; behind++) {
            run(begun(4, "2*3"), post(0, 0, 2, 0, 0), "read(0..2)=1 read(0..2)=1",
                eachBut(behind, 0, 2, "read(#)=1"), "told(0,3..4)=2|3 read(" + behind + ")=1 told(0,3)=3");
            run(begun(4, "2*3"), post(0, 0, 0, 0, 0), eachBut(behind, 0, 2, "read(#)=1"),
                "told(0,3..4)=0|3 read(" + behind + ")=1 told(0,3)=1");
        }
        // As many as there are readers.
        run("ring(1)=0 reader(2*16,0,0)=0..15 told(0,3..4)=0|16 begin()=1", post(0, 0, 0, 0, 0), "read(0..14)=1",
            "told(0,3)=0 read(15)=1 told(0,3..4)=1|16 give(0)=1 told(0,3..4)=1|16");
    }

    private void toldRefusals() {
        sentence("NUMBER: another what.");
        run("ring(1)=0 told(0,MIN|-1|7|8|MAX)=NUMBER found(0)=0 told(0,0..6)=1|0|0|-1|0|0|0");

        sentence("FOUND: BEYOND: there is no such ring.");
        run("told(0,0..6)=FOUND found(0)=2 found(2)=7 ring(1*2)=0|1 told(" + NO_RING_OF_TWO + ",0)=FOUND found(2)=13");
        run(EIGHT_RINGS, "told(-1|8,0|6)=FOUND found(2)=4 told(0|7,0)=2");

        firstNamed();
        // NUMBER ahead of BEYOND.
        run("told(0,7|-1)=NUMBER ring(1)=0 told(1|-1,7|-1)=NUMBER found(0)=0");
    }

    private void last() {
        section("promise 19");
        sentence("LAST of a ring;");
        run("ring(4*2)=0|1 begin()=1 claim(0,3)=0 last(0|1)=3|0 claim(0,4)=1 last(0)=4 claim(0,3)=FALLS last(0)=4",
            "batch(0,9,2)=2 last(0)=9 claim(0,10)=HELD last(0)=9 close(0)=1 last(0)=9 publish(0,0..3,0,0)=1 give(0)=1",
            "last(0)=9 claim(1,MIN)=0 last(1)=MIN claim(1,-1)=1 last(1)=-1 claim(1,MAX)=2 last(1)=MAX");
        run(EIGHT_RINGS, "claim(0,5)=0 claim(7,6)=0 last(0..7)=5|0|0|0|0|0|0|6");

        sentence("0 before its first claim, and if there is no such ring.");
        run("last(0)=0 ring(1)=0 last(0)=0 begin()=1 last(0)=0 claim(0,7)=0 last(0)=7 last(MIN|-1|1|7|8|MAX)=0",
            "found(0)=0");
        run(EIGHT_RINGS, "claim(0..7,7)=0 last(0|7)=7 last(-1|8)=0");
    }
}
