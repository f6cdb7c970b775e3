/** Promises 1 to 8, ahead of the beginning, sentence by sentence. */
final class AheadSentences extends Sentences {
    private static final String EIGHT_RINGS = "ring(1*8)=0..7 ";
    /** Readers 0 .. 15: 0 is an ECHO of ring 0, each other one is a GATE there and names the one before it. */
    private static final String SIXTEEN_IN_A_CHAIN =
        "ring(1*2)=0|1 reader(7,0,1)=0 " + each(0, 14, "reader(6,0,#)=#+1");

    AheadSentences(Checks checks, Document document) {
        super(checks, document);
    }

    @Override
    void all() {
        newObject();
        ring();
        ringOrder();
        reader();
        readerNumbers();
        readerOrder();
        join();
        joinOrder();
        name();
        nameKinds();
        nameThereAndFull();
        nameCircle();
        nameOrder();
        circle();
        circleTakesTheLeast();
        circleBeyond();
        begin();
        made();
        endSentence();
    }

    private void newObject() {
        section("promise 1");
        sentence("No rings, no readers;");
        run("made()=0 told(-1..8,0)=FOUND of(-1..16,0)=FOUND last(-1..8)=0 place(-1..16,0)=-1 got(0..15,0..4)=-1",
            "word(0..15,0..7)=0 ring(1)=0 reader(1,0,0)=0");
        run("begin()=1 claim(0..7,0)=NUMBER batch(0,0,1)=NUMBER fill(0,0,0,0)=NUMBER copy(0,0,0,0,0)=NUMBER",
            "publish(0,0,0,0)=NUMBER close(0)=NUMBER give(0)=NUMBER read(0)=FOUND round()=0 why(0)=NUMBER on(0)=-1");

        sentence("the post has not begun;");
        run("read(0)=STATE round()=STATE why(0)=STATE on(0)=-1 stuck()=0 begin()=1 round()=0");
        run("ring(1)=0 reader(2,0,0)=0 claim(0,0)=STATE");

        sentence("nothing was found or refused.");
        run("found(0..6)=0 by()=-1 circle(-1..16)=-1 again()=FOUND found(0)=6");
    }

    private void ring() {
        section("promise 2");
        sentence("A ring is made: its number.");
        run("ring(1)=0 ring(64)=1 told(0|1,0..6)=1|0|0|-1|0|0|0|64|0|0|-1|0|0|0 last(0|1)=0 made()=67 ring(2)=2");

        sentence("FOUND (SIZE): slots is below 0;");
        run("ring(-1)=FOUND found(0|3)=3|1 ring(-2|-4|-64|-65|MIN)=FOUND found(0|3)=3|6 found(1|2|4|5|6)=0 made()=0",
            "ring(0)=NUMBER found(3)=6");

        sentence("NUMBER: slots isn't 1, 2, 4, 8, 16, 32 or 64;");
        run("ring(0|3|5..7|9..15|17..31|33..63|65..130|256|4096|65536|1073741824|MAX)=NUMBER found(0)=0 made()=0");
        run("ring(1|2|4|8|16|32|64)=0..6 told(0..6,0)=1|2|4|8|16|32|64 ring(128)=NUMBER ring(0)=NUMBER");

        sentence("STATE: the post has begun;");
        run("ring(1)=0 begin()=1 ring(1|2|4|8|16|32|64)=STATE made()=2 told(1,0)=FOUND");

        sentence("FULL: there are 8.");
        run(each(0, 7, "ring(2)=#"), "ring(1|2|4|8|16|32|64)=FULL made()=24 told(7,0)=2");
    }

    private void ringOrder() {
        firstNamed();
        // SIZE ahead of STATE and FULL, NUMBER ahead of both, STATE ahead of FULL.
        run(EIGHT_RINGS, "ring(-1)=FOUND ring(0|3|65)=NUMBER ring(1)=FULL begin()=1 ring(-1)=FOUND ring(0|3|65)=NUMBER",
            "ring(1)=STATE found(3)=2");
    }

    private void reader() {
        section("promise 3");
        sentence("A reader of a ring is made: its number.");
        run(EIGHT_RINGS, "reader(1,0,0)=0 reader(2,7,0)=1 reader(3,7,0)=2 reader(4,0,0)=3 reader(5,7,0)=4",
            "reader(6,7,1)=5 reader(7,0,7)=6 of(0..6,0)=1..7 of(0..6,1)=0|7|7|0|7|7|0 of(0..6,3)=0 of(0..6,4|5)=-1",
            "of(0..6,6|8)=0 of(0..6,7)=0|0|0|0|0|1|0 got(0..6,0..4)=-1 reader(1,3,0)=7");

        sentence("Other is, of a MERGE, its second ring, of a GATE the reader that it NAMES first, of an ECHO its "
            + "TARGET;");
        run(EIGHT_RINGS, "reader(5,3,7)=0 reader(5,3,0)=1 place(0,0..7)=-1|-1|-1|0|-1|-1|-1|0",
            "place(1,0..7)=0|-1|-1|0|-1|-1|-1|-1 of(0|1,1)=3 told(7|0|3,4)=1|1|2 reader(7,5,0)=2 reader(7,5,7)=3",
            "target(2|3)=0|7 named(2|3,0)=-1 place(2,0)=-1 reader(2,6,0)=4 reader(2,6,0)=5 reader(6,6,5)=6",
            "named(6,0..1)=5|-1 reader(6,6,6)=7 named(7,0)=6");

        sentence("else it counts nothing.");
        run(EIGHT_RINGS, "reader(1..4,0,MIN)=0..3 reader(1..4,0,-1)=4..7 reader(1..4,0,99)=8..11",
            "reader(1..4,0,MAX)=12..15");
    }

    private void readerNumbers() {
        sentence("NUMBER: kind isn't 1 .. 7, there is no such ring;");
        run("ring(1*2)=0|1 reader(2,0,0)=0 reader(MIN|-1|0|8|9|MAX,0,1)=NUMBER reader(MIN|-1|0|8|9|MAX,0,0)=NUMBER",
            "made()=5 reader(1,0,0)=1 reader(7,0,1)=2");
        run("reader(1..7,0,0)=NUMBER ring(1*2)=0|1 reader(2,0,0)=0 reader(1..7,MIN|-1|2|7|8|MAX,0)=NUMBER made()=5");
        run(EIGHT_RINGS, "reader(1..5|7,-1|8,1)=NUMBER reader(2,0,0)=0 reader(2,7,0)=1 reader(6,-1|8,0)=NUMBER");

        sentence("of MERGE and ECHO: there is no ring other, or it is the same one;");
        run("ring(1*2)=0|1 reader(5|7,0,MIN|-1|2|7|8|MAX)=NUMBER reader(5|7,0|1,0)=NUMBER|0|NUMBER|1 made()=6");
        run(EIGHT_RINGS, "reader(5|7,3,-1|3|8)=NUMBER reader(5|7,0,0)=NUMBER reader(5|7,7,7)=NUMBER",
            "reader(5|7,3,0|7)=0..3");

        sentence("of GATE: there is no reader other.");
        run("ring(1*2)=0|1 reader(6,0,0|1)=NUMBER reader(2,0,0)=0 reader(6,0,MIN|-1|1|2|16|MAX)=NUMBER reader(6,0,0)=1",
            // The one that is made isn't there yet.
            "reader(6,0,2)=NUMBER made()=6");
        run("ring(1)=0 reader(2*14,0,0)=0..13 reader(6,0,0)=14 reader(6,0,15|-1)=NUMBER reader(6,0,14)=15",
            "named(14|15,0)=0|14 reader(6,0,15)=FULL reader(6,0,16|-1)=NUMBER");
    }

    private void readerOrder() {
        sentence("STATE: the post has begun;");
        run(allKinds(1), "begin()=1 reader(1..7,0,1)=STATE made()=43 of(7,0)=FOUND told(0,4)=4");

        sentence("KIND: of a GATE: other has no PLACE in the ring;");
        run(allKinds(1), "ring(1)=2 reader(6,0,0|3)=KIND reader(6,1,1..3|5|6)=KIND reader(6,2,4)=KIND",
            "reader(6,0,1|2|4|5|6)=7..11 reader(6,1,4)=12 reader(6,1,0)=KIND join(4,2)=1 reader(6,2,4)=13",
            "named(13,0)=4");

        sentence("FULL: there are 16.");
        run("ring(1*2)=0|1", each(0, 15, "reader(2,0,0)=#"), "reader(1..5,0,1)=FULL reader(6,0,15)=FULL",
            "reader(7,0,1)=FULL made()=20 told(0,4)=16");

        firstNamed();
        // NUMBER ahead of STATE, KIND and FULL; STATE ahead of KIND and FULL; KIND ahead of FULL.
        run("ring(1*2)=0|1 reader(1,0,0)=0 reader(2*15,0,0)=1..15 reader(8,0,0)=NUMBER reader(2,2,0)=NUMBER",
            "reader(5|7,0,0)=NUMBER reader(6,0,16)=NUMBER reader(6,0,0)=KIND reader(6,0,1)=FULL begin()=1",
            "reader(8,0,0)=NUMBER reader(2,2,0)=NUMBER reader(5|7,0,0)=NUMBER reader(6,0,16)=NUMBER",
            "reader(6,0|1,0)=STATE reader(2,0,0)=STATE");
    }

    private void join() {
        section("promise 4");
        sentence("A MERGE reads one ring more: 1.");
        run(EIGHT_RINGS, "reader(5,1,2)=0 join(0,0)=1 place(0,0)=0 told(0,4)=1 join(0,7)=1 place(0,7)=0 told(7,4)=1",
            "of(0,1..2)=1|0 begin()=1 claim(1,0)=0 publish(1,0,0,0)=1 on(0)=0 claim(0,0)=0 publish(0,0,0,0)=1 on(0)=2",
            "close(2)=1 on(0)=7 claim(7,-1)=0 publish(7,0,0,0)=1 read(0)=1 got(0,0)=7 place(0,7)=1 claim(0,0)=HELD",
            "by()=0");

        sentence("NUMBER: there is no such reader, no such ring;");
        run("join(0,0)=NUMBER ring(1*3)=0..2 join(0,0)=NUMBER reader(5,0,1)=0 join(MIN|-1|1|15|16|MAX,2)=NUMBER",
            "join(0,MIN|-1|3|7|8|MAX)=NUMBER place(0,2)=-1 join(0,2)=1");
        run(EIGHT_RINGS, "reader(5*16,1,2)=0..15 join(-1|16,0)=NUMBER join(0|15,-1|8)=NUMBER join(0|15,0|7)=1",
            "place(0|15,0|7)=0");

        sentence("STATE: the post has begun;");
        run("ring(1*3)=0..2 reader(5,0,1)=0 begin()=1 join(0,2)=STATE place(0,2)=-1 told(2,4)=0");

        sentence("KIND: it is no MERGE;");
        run("ring(1*3)=0..2 reader(1..7,0,1)=0..6 join(0..3|5|6,2)=KIND place(0..6,2)=-1 told(2,4)=0 join(4,2)=1");

        sentence("THERE: it reads that ring;");
        run("ring(1*4)=0..3 reader(5,2,0)=0 join(0,2|0)=THERE join(0,3)=1 join(0,3)=THERE told(0..3,4)=1|0|1|1",
            "join(0,1)=1 join(0,1)=THERE told(1,4)=1");
    }

    private void joinOrder() {
        sentence("FULL: it reads four.");
        run(EIGHT_RINGS, "reader(5,0,1)=0 join(0,2)=1 join(0,3)=1 join(0,4..7)=FULL place(0,0..7)=0|0|0|0|-1|-1|-1|-1",
            // Another one isn't FULL.
            "told(4,4)=0 reader(5,0,1)=1 join(1,4)=1");

        firstNamed();
        // NUMBER ahead of STATE, KIND and FULL; STATE ahead of KIND, THERE and FULL; KIND ahead of THERE; THERE ahead
        // of FULL.
        run("ring(1*5)=0..4 reader(5,0,1)=0 reader(2,0,0)=1 join(0,2|3)=1 join(1,5)=NUMBER join(1,0)=KIND",
            "join(0,5)=NUMBER join(0,0|3)=THERE join(0,4)=FULL begin()=1 join(2,0)=NUMBER join(0,5)=NUMBER",
            "join(1,5)=NUMBER join(1,1)=STATE join(1,0)=STATE join(0,0)=STATE join(0,4)=STATE");
    }

    private void name() {
        section("promise 5");
        sentence("A GATE or ECHO NAMES one reader more: 1.");
        run("ring(2*2)=0|1 reader(2*2,0,0)=0|1 reader(6,0,0)=2 reader(7,0,1)=3 name(2,1)=1 of(2,7)=2",
            "named(2,0..2)=0|1|-1 name(3,1)=1 name(3,2)=1 name(3,0)=1 of(3,7)=3 named(3,0..3)=1|2|0|-1 begin()=1",
            post(0, 0, 0, 0, 0),
            "read(0)=1 read(2|3)=0 read(1)=1 read(3)=0 read(2)=1 read(3)=1");

        sentence("NUMBER: there is no such reader, no such other;");
        run("name(0,0)=NUMBER ring(1)=0 reader(2*2,0,0)=0|1 reader(6,0,0)=2 name(MIN|-1|3|15|16|MAX,0)=NUMBER",
            "name(2,MIN|-1|3|15|16|MAX)=NUMBER of(2,7)=1");
        run("ring(1*2)=0|1 reader(7*16,0,1)=0..15 name(-1|16,0|15)=NUMBER name(0|15,-1|16)=NUMBER of(0|15,7)=0",
            "name(0,15)=1 name(15,1)=1 named(0|15,0)=15|1");

        sentence("STATE: the post has begun;");
        run("ring(1)=0 reader(2*2,0,0)=0|1 reader(6,0,0)=2 begin()=1 name(2,1)=STATE of(2,7)=1 named(2,1)=-1");
    }

    private void nameKinds() {
        sentence("KIND: it is neither, or other has no PLACE in its ring;");
        run(allKinds(1), "reader(3,0,0)=7 name(0..4,7)=KIND name(5|6,7)=1 of(0..6,7)=0|0|0|0|0|2|1");
        // No PLACE: a SEES and a FOLDS; one of another ring, though this one is its TARGET; a MERGE of other rings.
        run("ring(1*3)=0..2 reader(2,0,0)=0 reader(6,0,0)=1 reader(7,0,1)=2 reader(1|4,0,0)=3|4 reader(2|3,1,0)=5|6",
            "reader(7,1,0)=7 reader(5,1,2)=8 reader(6,1,5)=9 name(1|2,3..9)=KIND join(8,0)=1 name(1|2,8)=1",
            "of(1|2,7)=2|1");
        // A PLACE: a WAITS, a MISSES, a MERGE by its first and by its second ring, a GATE, an ECHO.
        run("ring(1*2)=0|1 reader(7,0,1)=0 reader(7,0,1)=1 reader(2|3,0,0)=2|3 reader(5,0,1)=4 reader(5,1,0)=5",
            "reader(6,0,2)=6 name(0,2..5)=1 name(1,6)=1 name(1,0)=1");
    }

    private void nameThereAndFull() {
        sentence("THERE: other is itself, or NAMED by it;");
        run("ring(1*2)=0|1 reader(2*2,0,0)=0|1 reader(6,0,0)=2 reader(7,0,1)=3 name(2,2)=THERE name(3,3)=THERE",
            "name(2,0)=THERE name(2,1)=1 name(2,1)=THERE name(3,0)=1 name(3,0)=THERE of(2|3,7)=2|1 circle(0)=-1");

        sentence("FULL: it NAMES four;");
        run("ring(1*2)=0|1 reader(2*6,0,0)=0..5 reader(6,0,5)=6 reader(7,0,1)=7 name(6,0..2)=1 name(6,3|4)=FULL",
            "name(7,0..3)=1 name(7,4..6)=FULL of(6|7,7)=4 named(6,0..4)=5|0|1|2|-1 named(7,0..4)=0|1|2|3|-1");
    }

    private void nameCircle() {
        sentence("CIRCLE: one comes by names from other to it.");
        // In one step, in two, and in fifteen.
        run("ring(1*2)=0|1 reader(7,0,1)=0 reader(6,0,0)=1 name(0,1)=CIRCLE of(0,7)=0 named(0,0)=-1");
        run("ring(1*2)=0|1 reader(7,0,1)=0 reader(6,0,0)=1 reader(6,0,1)=2 name(0,2)=CIRCLE name(1,2)=CIRCLE",
            "name(2,0)=1");
        run(SIXTEEN_IN_A_CHAIN, "name(0,1..15)=CIRCLE name(14,15)=CIRCLE name(15,0)=1 of(0|14|15,7)=0|1|2");
        // The second and the fourth name lead there, too; names that don't lead there are no circle.
        run("ring(1*2)=0|1 reader(7*4,0,1)=0..3 reader(2*2,0,0)=4|5 name(1,4)=1 name(1,0)=1 name(0,1)=CIRCLE",
            "name(2,4)=1 name(2,5)=1 name(2,3)=1 name(2,1)=1 name(0,2)=CIRCLE name(0,3)=1 name(3,0)=CIRCLE",
            "name(3,1|2)=CIRCLE name(3,4)=1");
        // A way is found though two names meet again on it.
        run("ring(1*2)=0|1 reader(7*5,0,1)=0..4 name(0,1|2)=1 name(1|2,3)=1 name(3,4)=1 name(4,0)=CIRCLE",
            "name(4,1)=CIRCLE name(0,4)=1 name(2,1)=1 name(1,2)=CIRCLE");
    }

    private void nameOrder() {
        firstNamed();
        // NUMBER ahead of STATE and KIND; STATE ahead of all others; KIND ahead of THERE and FULL; THERE ahead of FULL;
        // FULL ahead of CIRCLE.
        run("ring(1*2)=0|1 reader(2*5,0,0)=0..4 reader(6,0,0)=5 reader(6,0,5)=6 reader(1,0,0)=7 reader(7,0,1)=8",
            "name(5,1..3)=1 reader(6,0,8)=9 name(0,10)=NUMBER name(0,0)=KIND name(0,1)=KIND name(5,7)=KIND",
            "name(5,5)=THERE name(5,3)=THERE name(5,4)=FULL name(5,6)=FULL circle(0)=-1 name(8,9)=CIRCLE begin()=1",
            "name(10,0)=NUMBER name(5,10)=NUMBER name(0,10)=NUMBER name(0,1)=STATE name(5,7)=STATE name(5,5)=STATE",
            "name(5,3)=STATE name(5,4)=STATE name(5,6)=STATE name(8,9)=STATE circle(0..2)=8|9|-1");
    }

    private void circle() {
        section("promise 6");
        sentence("Of the latest name() that answered CIRCLE, as names were then: its reader (i = 0), its other (1),");
        run("ring(1*2)=0|1 reader(7,0,1)=0 reader(6,0,0)=1 reader(6,0,1)=2 reader(7,0,1)=3 circle(0)=-1",
            "name(1,2)=CIRCLE circle(0..2)=1|2|-1 name(0,1)=CIRCLE circle(0..2)=0|1|-1",
            // Names that are taken, and other refusals, leave it; and so does the beginning.
            "name(0,0)=THERE name(0,4)=NUMBER name(2,3)=1 name(2,0)=1 circle(0..2)=0|1|-1 begin()=1 name(0,1)=STATE",
            "circle(0..2)=0|1|-1");
        // As names were then: 5 came to 1 by 3; later there is a way by 2, which only the next CIRCLE tells.
        run("ring(1*2)=0|1 reader(2,0,0)=0 reader(7*5,0,1)=1..5 name(5,4)=1 name(5,3)=1 name(5,0)=1 name(5,2)=1",
            "name(4,1)=1 name(3,1)=1 name(1,5)=CIRCLE circle(0..3)=1|5|3|-1 name(2,1)=1 circle(0..3)=1|5|3|-1",
            "name(1,5)=CIRCLE circle(0..3)=1|5|2|-1");
        // As names were then: 2 does NAME the reader only later.
        run("ring(1*2)=0|1 reader(7*4,0,1)=0..3 name(1,0)=1 name(2,1)=1 name(0,2)=CIRCLE circle(0..3)=0|2|1|-1",
            "name(2,0)=1 circle(0..3)=0|2|1|-1 name(0,2)=CIRCLE circle(0..3)=0|2|-1|-1");
    }

    private void circleTakesTheLeast() {
        sentence("and behind each one that doesn't NAME the reader the least one that it NAMES and from which one "
            + "comes by names to the reader;");
        // The least one is named last; a lesser one leads nowhere, or only to others.
        run("ring(1*2)=0|1 reader(7*6,0,1)=0..5 reader(2,0,0)=6 name(5,4)=1 name(5,3)=1 name(5,2)=1 name(5,1)=1",
            "name(4|3|2,0)=1 name(1,6)=1 name(0,5)=CIRCLE circle(0..3)=0|5|2|-1");
        // The reader 0 is on the way; the way is longer than one that is not of the least ones.
        run("ring(1*2)=0|1 reader(7*5,0,1)=0..4 name(4,3)=1 name(4,0)=1 name(0,2)=1 name(2,1)=1 name(3,1)=1",
            "name(1,4)=CIRCLE circle(0..4)=1|4|0|2|-1");
        // One that NAMES the reader is the last, though it NAMES a lesser one that leads there, too.
        run("ring(1*2)=0|1 reader(7*4,0,1)=0..3 name(3,0)=1 name(3,1)=1 name(0,1)=1 name(1,3)=CIRCLE",
            "circle(0..2)=1|3|-1");
        run("ring(1*2)=0|1 reader(7*4,0,1)=0..3 name(2,0)=1 name(2,3)=1 name(0,3)=1 name(1,2)=1 name(3,1)=CIRCLE",
            "circle(0..3)=3|1|2|-1");
        // The greatest reader is on the way and is the one who would name.
        run("ring(1*2)=0|1 reader(7*16,0,1)=0..15 name(14,15)=1 name(13,14)=1 name(15,13)=CIRCLE",
            "circle(0..3)=15|13|14|-1 name(0,15)=1 name(13,0)=1 name(15,13)=CIRCLE circle(0..3)=15|13|0|-1",
            "name(5,15)=1 name(15,6)=1 name(6,5)=CIRCLE circle(0..3)=6|5|15|-1");
    }

    private void circleBeyond() {
        sentence("-1 beyond, or if there was none.");
        run("circle(MIN|-1|0|1|15|16|MAX)=-1");
        run("ring(1*2)=0|1 reader(7,0,1)=0 reader(6,0,0)=1 name(1,0)=THERE circle(0|1)=-1 name(0,1)=CIRCLE",
            "circle(MIN|-1|2|3|15|16|MAX)=-1 circle(0|1)=0|1");
        // The longest one has all 16.
        run(SIXTEEN_IN_A_CHAIN, "name(0,15)=CIRCLE circle(0..15)=0|15|14|13|12|11|10|9|8|7|6|5|4|3|2|1",
            "circle(MIN|-1|16|17|MAX)=-1",
            // A shorter one has nothing of the longer one behind it.
            "name(3,5)=CIRCLE circle(0..16)=3|5|4|-1|-1|-1|-1|-1|-1|-1|-1|-1|-1|-1|-1|-1|-1");
    }

    private void begin() {
        section("promise 7");
        sentence("The post begins: 1.");
        run("begin()=1 round()=0");
        run(allKinds(1), "claim(0,0)=STATE begin()=1 claim(0,0)=0 reader(1,0,0)=STATE");

        sentence("STATE: it has.");
        run("begin()=1 begin()=STATE begin()=STATE round()=0");
    }

    private void made() {
        section("promise 8");
        sentence("How many rows were made: of a ring one and one for each slot, of a reader one, of a FOLDS 33.");
        run("made()=0 ring(1)=0 made()=2 ring(2)=1 made()=5 ring(4)=2 made()=10 ring(8)=3 made()=19 ring(16)=4",
            "made()=36 ring(32)=5 made()=69 ring(64)=6 made()=134 reader(1,0,1)=0 made()=135 reader(2,0,1)=1",
            "made()=136 reader(3,0,1)=2 made()=137 reader(4,0,1)=3 made()=170 reader(5,0,1)=4 made()=171",
            "reader(6,0,1)=5 made()=172 reader(7,0,1)=6 made()=173 join(4,2)=1 name(6,1)=1 made()=173 ring(3)=NUMBER",
            "reader(8,0,0)=NUMBER made()=173");
        // The most rows that there may be.
        run("ring(64*8)=0..7 made()=520 reader(4*16,0,0)=0..15 made()=1048 ring(64)=FULL reader(4,0,0)=FULL",
            "made()=1048 begin()=1 made()=1048");
    }
}
