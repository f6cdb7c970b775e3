import java.util.Arrays;

/** A post that hands messages on in rings of slots that are made once, ahead of the beginning. */
public final class RingPost {
    public static final int NUMBER = -1;
    public static final int STATE = -2;
    public static final int KIND = -3;
    public static final int FULL = -4;
    public static final int THERE = -5;
    public static final int CIRCLE = -6;
    public static final int GIVEN = -7;
    public static final int CLOSED = -8;
    public static final int FALLS = -9;
    public static final int HELD = -10;
    public static final int NOT = -11;
    public static final int FOUND = -12;

    private static final int SEES = 1;
    private static final int WAITS = 2;
    private static final int MISSES = 3;
    private static final int FOLDS = 4;
    private static final int MERGE = 5;
    private static final int GATE = 6;
    private static final int ECHO = 7;

    private static final int MISSING = 1;
    private static final int BEYOND = 2;
    private static final int SIZE = 3;
    private static final int CAST = 4;
    private static final int COPY = 5;
    private static final int NONE = 6;

    private static final int READY = 0;
    private static final int RING_GIVEN = 1;
    private static final int NOTHING_NEW = 2;
    private static final int CLAIM_OPEN = 3;
    private static final int NAMED_BEHIND = 4;
    private static final int TARGET_SHUT = 5;
    private static final int ALL_PASSED = 6;
    private static final int OTHER_LACKS = 7;

    private static final int MOST_RINGS = 8;
    private static final int MOST_READERS = 16;
    private static final int MOST_SLOTS = 64;
    private static final int MOST_NAMES = 4;
    private static final int MOST_MERGED = 4;
    private static final int LONGS = 8;
    private static final int KEYS = 32;
    private static final int FINDINGS = 6;

    private final Ring[] rings;
    private final Reader[] readers;
    private final int[] findings;
    private final int[] chain;
    private int ringCount;
    private int readerCount;
    private int rowCount;
    private int latestFinding;
    private int chainLength;
    private int latestRefusal;
    private int latestBy;
    private boolean begun;

    public RingPost() {
        rings = new Ring[MOST_RINGS];
        readers = new Reader[MOST_READERS];
        findings = new int[FINDINGS + 1];
        chain = new int[MOST_READERS];
        latestBy = -1;
    }

    // ---- ahead of the beginning

    public int ring(int slots) {
        if (slots < 0) {
            return finding(SIZE);
        }
        if (slots == 0 || slots > MOST_SLOTS || Integer.bitCount(slots) != 1) {
            return NUMBER;
        }
        if (begun) {
            return STATE;
        }
        if (ringCount >= MOST_RINGS) {
            return FULL;
        }
        int number = ringCount;
        rings[number] = new Ring(number, slots);
        ringCount++;
        rowCount += 1 + slots;
        return number;
    }

    public int reader(int kind, int ring, int other) {
        Ring home = ringAt(ring);
        if (kind < SEES || kind > ECHO || home == null || !otherMayBe(kind, ring, other)) {
            return NUMBER;
        }
        if (begun) {
            return STATE;
        }
        if (kind == GATE && placeOf(other, ring) < 0) {
            return KIND;
        }
        if (readerCount >= MOST_READERS) {
            return FULL;
        }
        int number = readerCount;
        readers[number] = newReader(kind, home, other);
        readerCount++;
        rowCount += kind == FOLDS ? 1 + KEYS : 1;
        return number;
    }

    public int join(int reader, int ring) {
        Reader merge = readerAt(reader);
        if (merge == null || ringAt(ring) == null) {
            return NUMBER;
        }
        if (begun) {
            return STATE;
        }
        if (merge.kind != MERGE) {
            return KIND;
        }
        if (merge.placeIn(ring) >= 0) {
            return THERE;
        }
        if (merge.placeCount >= MOST_MERGED) {
            return FULL;
        }
        merge.standIn(ring);
        return 1;
    }

    public int name(int reader, int other) {
        Reader namer = readerAt(reader);
        if (namer == null || readerAt(other) == null) {
            return NUMBER;
        }
        if (begun) {
            return STATE;
        }
        if (!namer.mayName() || placeOf(other, namer.home.number) < 0) {
            return KIND;
        }
        if (reader == other || namer.isNaming(other)) {
            return THERE;
        }
        if (namer.nameCount >= MOST_NAMES) {
            return FULL;
        }
        if (leadsTo(other, reader)) {
            keepCircle(reader, other);
            return CIRCLE;
        }
        namer.addName(other);
        return 1;
    }

    public int circle(int i) {
        return i >= 0 && i < chainLength && i < chain.length ? chain[i] : -1;
    }

    public int begin() {
        if (begun) {
            return STATE;
        }
        begun = true;
        return 1;
    }

    public int made() {
        return rowCount;
    }

    // ---- writers

    public int claim(int ring, long stamp) {
        return claimSome(ringAt(ring), stamp, 1);
    }

    public int batch(int ring, long stamp, int n) {
        return claimSome(ringAt(ring), stamp, n);
    }

    public int by() {
        return latestBy;
    }

    public int again() {
        return latestRefusal == 0 ? finding(NONE) : latestRefusal;
    }

    public int fill(int ring, int q, int i, long v) {
        Ring chosen = ringAt(ring);
        if (chosen == null) {
            return NUMBER;
        }
        if (!begun) {
            return STATE;
        }
        if (chosen.given) {
            return finding(MISSING);
        }
        Message slot = chosen.openSlot(q);
        if (slot == null) {
            return NOT;
        }
        if (i < 0 || i >= LONGS) {
            return finding(BEYOND);
        }
        slot.longs[i] = v;
        return 1;
    }

    public int copy(int ring, int q, int reader, int from, int n) {
        Ring to = ringAt(ring);
        Reader source = readerAt(reader);
        if (to == null || source == null) {
            return NUMBER;
        }
        if (!begun) {
            return STATE;
        }
        if (to.given) {
            return finding(MISSING);
        }
        Message slot = to.openSlot(q);
        if (slot == null) {
            return NOT;
        }
        // Tested apart so that from + n can't wrap round.
        if (from < 0 || from > LONGS || n < 0 || n > LONGS - from) {
            return finding(COPY);
        }
        System.arraycopy(source.kept.longs, from, slot.longs, 0, n);
        return 1;
    }

    public int publish(int ring, int q, int key, int length) {
        Ring chosen = ringAt(ring);
        if (chosen == null || key < 0 || key >= KEYS || length < 0 || length > LONGS) {
            return NUMBER;
        }
        if (!begun) {
            return STATE;
        }
        if (chosen.given) {
            return GIVEN;
        }
        Message slot = chosen.openSlot(q);
        if (slot == null) {
            return NOT;
        }
        publishSlot(slot, key, length);
        return 1;
    }

    public int close(int ring) {
        Ring chosen = ringAt(ring);
        if (chosen == null) {
            return NUMBER;
        }
        if (!begun) {
            return STATE;
        }
        if (chosen.given) {
            return GIVEN;
        }
        if (chosen.closed) {
            return CLOSED;
        }
        chosen.closed = true;
        return 1;
    }

    public int give(int ring) {
        Ring chosen = ringAt(ring);
        if (chosen == null) {
            return NUMBER;
        }
        if (!begun) {
            return STATE;
        }
        if (chosen.given) {
            return GIVEN;
        }
        if (chosen.countOpen() > 0 || holderUpTo(chosen, chosen.claimed - 1) >= 0) {
            return HELD;
        }
        chosen.given = true;
        return 1;
    }

    public int told(int ring, int what) {
        if (what < 0 || what > 6) {
            return NUMBER;
        }
        Ring chosen = ringAt(ring);
        if (chosen == null) {
            return finding(BEYOND);
        }
        switch (what) {
            case 0:
                return chosen.slots;
            case 1:
                return chosen.claimed;
            case 2:
                return chosen.countOpen();
            case 3:
                return leastHolderPlace(chosen);
            case 4:
                return countHolders(chosen);
            case 5:
                return isHeldUp(chosen, chosen.claimed) ? 1 : 0;
            default:
                return chosen.given ? 2 : chosen.closed ? 1 : 0;
        }
    }

    public long last(int ring) {
        Ring chosen = ringAt(ring);
        return chosen == null ? 0 : chosen.latestStamp;
    }

    // ---- readers

    public int read(int reader) {
        if (!begun) {
            return STATE;
        }
        Reader who = readerAt(reader);
        return who == null ? finding(BEYOND) : readOnce(who);
    }

    public int round() {
        if (!begun) {
            return STATE;
        }
        int count = 0;
        for (int i = 0; i < MOST_READERS; i++) {
            Reader who = readerAt(i);
            if (who != null && readOnce(who) == 1) {
                count++;
            }
        }
        return count;
    }

    public long got(int reader, int what) {
        Reader who = readerAt(reader);
        if (who == null || who.kept.number < 0) {
            return -1;
        }
        switch (what) {
            case 0:
                return who.kept.ring;
            case 1:
                return who.kept.number;
            case 2:
                return who.kept.stamp;
            case 3:
                return who.kept.key;
            case 4:
                return who.kept.length;
            default:
                return -1;
        }
    }

    public long word(int reader, int i) {
        Reader who = readerAt(reader);
        return who == null || i < 0 || i >= LONGS ? 0 : who.kept.longs[i];
    }

    public int of(int reader, int what) {
        if (what < 0 || what > 8) {
            return NUMBER;
        }
        Reader who = readerAt(reader);
        if (who == null) {
            return finding(BEYOND);
        }
        switch (what) {
            case 0:
                return who.kind;
            case 1:
                return who.home.number;
            case 2:
                return who.placeIn(who.home.number);
            case 3:
                return who.missedCount;
            case 4:
                return who.spanFirst;
            case 5:
                return who.spanLast;
            case 6:
                return who.entryCount;
            case 7:
                return who.nameCount;
            default:
                return who.gotCount;
        }
    }

    public int place(int reader, int ring) {
        return placeOf(reader, ring);
    }

    public int named(int reader, int i) {
        Reader who = readerAt(reader);
        if (who == null) {
            return finding(BEYOND);
        }
        if (!who.mayName()) {
            return finding(CAST);
        }
        return i >= 0 && i < who.nameCount && i < MOST_NAMES ? who.names[i] : -1;
    }

    public int entry(int reader, int i) {
        Reader who = readerAt(reader);
        if (who == null) {
            return finding(BEYOND);
        }
        if (who.kind != FOLDS) {
            return finding(CAST);
        }
        return i >= 0 && i < who.entryCount && i < who.entries.length ? who.entries[i].key : -1;
    }

    public int target(int reader) {
        Reader who = readerAt(reader);
        if (who == null) {
            return finding(BEYOND);
        }
        return who.target == null ? finding(CAST) : who.target.number;
    }

    public int why(int reader) {
        if (!begun) {
            return STATE;
        }
        Reader who = readerAt(reader);
        return who == null ? NUMBER : reasonOf(who);
    }

    public int on(int reader) {
        Reader who = readerAt(reader);
        if (!begun || who == null) {
            return -1;
        }
        switch (reasonOf(who)) {
            case CLAIM_OPEN:
                return who.placeToRead();
            case NAMED_BEHIND:
                return leastNamedBehind(who);
            case TARGET_SHUT:
                return who.target == null ? -1 : who.target.number;
            case OTHER_LACKS:
                return leastLackingRing(who);
            default:
                return -1;
        }
    }

    public boolean stuck() {
        if (!begun || isAnyReady()) {
            return false;
        }
        boolean anyLive = false;
        for (int i = 0; i < MOST_RINGS; i++) {
            Ring each = ringAt(i);
            if (each != null && each.isLive()) {
                anyLive = true;
                if (!isHeldUp(each, each.claimed)) {
                    return false;
                }
            }
        }
        return anyLive;
    }

    public int found(int what) {
        if (what == 0) {
            return latestFinding;
        }
        return what >= 1 && what <= FINDINGS ? findings[what] : -1;
    }

    // ---- looking up

    private Ring ringAt(int number) {
        return number >= 0 && number < MOST_RINGS ? rings[number] : null;
    }

    private Reader readerAt(int number) {
        return number >= 0 && number < MOST_READERS ? readers[number] : null;
    }

    private int placeOf(int reader, int ring) {
        Reader who = readerAt(reader);
        return who == null ? -1 : who.placeIn(ring);
    }

    private int finding(int which) {
        if (which >= 1 && which <= FINDINGS) {
            findings[which]++;
            latestFinding = which;
        }
        return FOUND;
    }

    // ---- making readers and names

    private boolean otherMayBe(int kind, int ring, int other) {
        if (kind == MERGE || kind == ECHO) {
            return other != ring && ringAt(other) != null;
        }
        return kind != GATE || readerAt(other) != null;
    }

    private Reader newReader(int kind, Ring home, int other) {
        Reader made = new Reader(kind, home, kind == ECHO ? ringAt(other) : null);
        if (kind != SEES && kind != FOLDS) {
            made.standIn(home.number);
        }
        if (kind == MERGE) {
            made.standIn(other);
        }
        if (kind == GATE) {
            made.addName(other);
        }
        return made;
    }

    /** Whether one comes by names, in one step or more, from a reader to another. */
    private boolean leadsTo(int from, int to) {
        int reached = namesOfAll(1 << from);
        // No way without a turn back is longer than there are readers.
        for (int step = 0; step < MOST_READERS; step++) {
            reached |= namesOfAll(reached);
        }
        return ((reached >> to) & 1) != 0;
    }

    /** The readers (a bit each) that are named by some of these readers. */
    private int namesOfAll(int readerBits) {
        int bits = 0;
        for (int i = 0; i < MOST_READERS; i++) {
            Reader each = readerAt(i);
            if (each != null && ((readerBits >> i) & 1) != 0) {
                bits |= each.nameBits;
            }
        }
        return bits;
    }

    private void keepCircle(int reader, int other) {
        chain[0] = reader;
        chain[1] = other;
        chainLength = 2;
        int at = leastTowards(other, reader);
        for (int i = 2; i < MOST_READERS && at >= 0; i++) {
            chain[i] = at;
            chainLength++;
            at = leastTowards(at, reader);
        }
    }

    /** The least reader named by one from which names lead to the goal; -1 where it names the goal itself. */
    private int leastTowards(int from, int goal) {
        int bits = namesOfAll(1 << from);
        if (((bits >> goal) & 1) != 0) {
            return -1;
        }
        for (int i = 0; i < MOST_READERS; i++) {
            if (((bits >> i) & 1) != 0 && leadsTo(i, goal)) {
                return i;
            }
        }
        return -1;
    }

    // ---- claiming and publishing

    private int claimSome(Ring ring, long stamp, int n) {
        int refusal = refusalOfClaims(ring, stamp, n);
        if (refusal < 0 || ring == null) {
            latestRefusal = refusal;
            return refusal;
        }
        int first = ring.claimed;
        for (int i = 0; i < n && i < MOST_SLOTS; i++) {
            ring.newClaim(stamp);
        }
        return first;
    }

    private int refusalOfClaims(Ring ring, long stamp, int n) {
        if (ring == null || n < 1 || n > ring.slots) {
            return NUMBER;
        }
        if (!begun) {
            return STATE;
        }
        if (ring.given) {
            return GIVEN;
        }
        if (ring.closed) {
            return CLOSED;
        }
        if (ring.claimed > 0 && stamp < ring.latestStamp) {
            return FALLS;
        }
        for (int i = 0; i < n && i < MOST_SLOTS; i++) {
            if (isHeldUp(ring, ring.claimed + i)) {
                latestBy = holderUpTo(ring, ring.claimed + i - ring.slots);
                return HELD;
            }
        }
        return 0;
    }

    /** Whether claim q of a ring, the next one or one behind it, would lose what is still wanted. */
    private boolean isHeldUp(Ring ring, int q) {
        int old = q - ring.slots;
        return old >= 0 && (ring.openSlot(old) != null || holderUpTo(ring, old) >= 0);
    }

    /** The least holder of a ring whose place there is q or less; -1 if there is none. */
    private int holderUpTo(Ring ring, int q) {
        for (int i = 0; i < MOST_READERS; i++) {
            Reader each = readerAt(i);
            int at = each == null ? -1 : each.heldPlace(ring.number);
            if (at >= 0 && at <= q) {
                return i;
            }
        }
        return -1;
    }

    private int leastHolderPlace(Ring ring) {
        int least = -1;
        for (int i = 0; i < MOST_READERS; i++) {
            Reader each = readerAt(i);
            int at = each == null ? -1 : each.heldPlace(ring.number);
            if (at >= 0) {
                least = least < 0 ? at : Math.min(least, at);
            }
        }
        return least;
    }

    private int countHolders(Ring ring) {
        int count = 0;
        for (int i = 0; i < MOST_READERS; i++) {
            Reader each = readerAt(i);
            if (each != null && each.heldPlace(ring.number) >= 0) {
                count++;
            }
        }
        return count;
    }

    private void publishSlot(Message slot, int key, int length) {
        slot.key = key;
        slot.length = length;
        slot.open = false;
        for (int i = 0; i < MOST_READERS; i++) {
            Reader each = readerAt(i);
            if (each != null && each.kind == FOLDS && each.home.number == slot.ring) {
                each.foldIn(slot);
            }
        }
    }

    // ---- reading

    private int readOnce(Reader who) {
        if (who.kind == MISSES) {
            who.skipMissed();
        }
        int reason = reasonOf(who);
        if (reason == RING_GIVEN) {
            return finding(MISSING);
        }
        if (reason != READY || !takeNext(who)) {
            return 0;
        }
        if (who.target != null) {
            writeOn(who.kept, who.target);
        }
        return 1;
    }

    /** A reader that is ready gets what it reads next. */
    private boolean takeNext(Reader who) {
        if (who.kind == FOLDS) {
            return who.takeEntry();
        }
        if (who.kind == SEES) {
            return who.keep(who.home.slotOf(who.home.newestPublished()));
        }
        if (who.kind == MERGE) {
            return takeAtPlace(who, ringOfLeastStamp(who));
        }
        return takeAtPlace(who, who.home);
    }

    private boolean takeAtPlace(Reader who, Ring from) {
        if (from == null || !who.keep(from.slotOf(who.placeIn(from.number)))) {
            return false;
        }
        who.stepOn(from.number);
        return true;
    }

    private void writeOn(Message message, Ring to) {
        boolean wouldFall = to.claimed > 0 && message.stamp < to.latestStamp;
        Message slot = to.newClaim(wouldFall ? to.latestStamp : message.stamp);
        System.arraycopy(message.longs, 0, slot.longs, 0, LONGS);
        publishSlot(slot, message.key, message.length);
    }

    private boolean isAnyReady() {
        for (int i = 0; i < MOST_READERS; i++) {
            Reader each = readerAt(i);
            if (each != null && reasonOf(each) == READY) {
                return true;
            }
        }
        return false;
    }

    /** Why a reader isn't ready, as why() tells it. */
    private int reasonOf(Reader who) {
        if (who.kind == MERGE) {
            return reasonOfMerge(who);
        }
        if (who.kind == FOLDS) {
            return who.entryCount > 0 ? READY : NOTHING_NEW;
        }
        if (who.home.given) {
            return RING_GIVEN;
        }
        if (who.kind == SEES) {
            return who.home.newestPublished() > who.kept.number ? READY : NOTHING_NEW;
        }
        return reasonAtPlace(who);
    }

    private int reasonAtPlace(Reader who) {
        int q = who.placeToRead();
        if (q >= who.home.claimed) {
            return NOTHING_NEW;
        }
        if (!who.home.isPublished(q)) {
            return CLAIM_OPEN;
        }
        if (leastNamedBehind(who) >= 0) {
            return NAMED_BEHIND;
        }
        if (who.target != null && (!who.target.isLive() || isHeldUp(who.target, who.target.claimed))) {
            return TARGET_SHUT;
        }
        return READY;
    }

    /** The least reader that one names and that did not read the claim at its place; -1 if there is none. */
    private int leastNamedBehind(Reader who) {
        int ring = who.home.number;
        for (int i = 0; i < MOST_READERS; i++) {
            if (who.isNaming(i) && placeOf(i, ring) <= who.placeIn(ring)) {
                return i;
            }
        }
        return -1;
    }

    private int reasonOfMerge(Reader merge) {
        if (leastLackingRing(merge) >= 0) {
            return OTHER_LACKS;
        }
        return ringOfLeastStamp(merge) == null ? ALL_PASSED : READY;
    }

    /** Whether a merge reads a ring and doesn't pass it over. */
    private boolean isAwaited(Reader merge, Ring ring) {
        int at = merge.placeIn(ring.number);
        return at >= 0 && !ring.given && !(ring.closed && at >= ring.claimed);
    }

    private int leastLackingRing(Reader merge) {
        for (int i = 0; i < MOST_RINGS; i++) {
            Ring each = ringAt(i);
            if (each != null && isAwaited(merge, each) && !each.isPublished(merge.placeIn(i))) {
                return i;
            }
        }
        return -1;
    }

    private Ring ringOfLeastStamp(Reader merge) {
        Ring best = null;
        long bestStamp = 0;
        for (int i = 0; i < MOST_RINGS; i++) {
            Ring each = ringAt(i);
            if (each != null && isAwaited(merge, each)) {
                Message next = each.slotOf(merge.placeIn(i));
                if (next != null && (best == null || next.stamp < bestStamp)) {
                    best = each;
                    bestStamp = next.stamp;
                }
            }
        }
        return best;
    }

    /** A claim in its slot, an entry of a FOLDS, or what a reader keeps of what it got. */
    private static final class Message {
        final long[] longs;
        int ring;
        int number;
        long stamp;
        int key;
        int length;
        boolean open;

        Message() {
            longs = new long[LONGS];
            number = -1;
        }

        void startOver(int newRing, int newNumber, long newStamp) {
            ring = newRing;
            number = newNumber;
            stamp = newStamp;
            key = 0;
            length = 0;
            open = true;
            Arrays.fill(longs, 0L);
        }

        void become(Message other) {
            ring = other.ring;
            number = other.number;
            stamp = other.stamp;
            key = other.key;
            length = other.length;
            System.arraycopy(other.longs, 0, longs, 0, LONGS);
        }
    }

    /** A ring; claim q lies in slot q modulo SLOTS until it is lost. */
    private static final class Ring {
        final int number;
        final int slots;
        final Message[] row;
        int claimed;
        long latestStamp;
        boolean closed;
        boolean given;

        /** The caller has tested that slots is a power of two. */
        Ring(int newNumber, int newSlots) {
            number = newNumber;
            slots = newSlots;
            row = new Message[newSlots];
            for (int i = 0; i < newSlots; i++) {
                row[i] = new Message();
            }
        }

        boolean isLive() {
            return !given && !closed;
        }

        /** The slot of claim q; null if it isn't made, or is lost. */
        Message slotOf(int q) {
            boolean isThere = !given && q >= 0 && q < claimed && q >= claimed - slots;
            return isThere ? row[q & (slots - 1)] : null;
        }

        Message openSlot(int q) {
            Message slot = slotOf(q);
            return slot != null && slot.open ? slot : null;
        }

        boolean isPublished(int q) {
            Message slot = slotOf(q);
            return slot != null && !slot.open;
        }

        int countOpen() {
            int count = 0;
            for (int i = 0; i < row.length; i++) {
                if (row[i].open) {
                    count++;
                }
            }
            return count;
        }

        /** The greatest number of a claim that is published and not lost; -1 if there is none. */
        int newestPublished() {
            for (int back = 1; back <= slots; back++) {
                if (isPublished(claimed - back)) {
                    return claimed - back;
                }
            }
            return -1;
        }

        /** The caller has tested that a claim isn't held up. */
        Message newClaim(long stamp) {
            Message slot = row[claimed & (slots - 1)];
            slot.startOver(number, claimed, stamp);
            claimed++;
            latestStamp = stamp;
            return slot;
        }
    }

    /** A reader of any kind; what its kind doesn't have stays empty. */
    private static final class Reader {
        final int kind;
        final Ring home;
        /** Null but of an ECHO. */
        final Ring target;
        final Message kept;
        /** By rings; -1 where it has no place. */
        final int[] places;
        final int[] names;
        final Message[] entries;
        int placeCount;
        int nameCount;
        /** The readers that it names, a bit each. */
        int nameBits;
        int entryCount;
        int gotCount;
        int missedCount;
        int spanFirst;
        int spanLast;

        Reader(int newKind, Ring newHome, Ring newTarget) {
            kind = newKind;
            home = newHome;
            target = newTarget;
            kept = new Message();
            places = new int[MOST_RINGS];
            Arrays.fill(places, -1);
            names = new int[MOST_NAMES];
            entries = new Message[newKind == FOLDS ? KEYS : 0];
            for (int i = 0; i < entries.length; i++) {
                entries[i] = new Message();
            }
            spanFirst = -1;
            spanLast = -1;
        }

        boolean mayName() {
            return kind == GATE || kind == ECHO;
        }

        boolean isNaming(int other) {
            return other >= 0 && other < MOST_READERS && ((nameBits >> other) & 1) != 0;
        }

        void addName(int other) {
            if (nameCount < MOST_NAMES) {
                names[nameCount] = other;
                nameCount++;
                nameBits |= 1 << other;
            }
        }

        int placeIn(int ring) {
            return ring >= 0 && ring < MOST_RINGS ? places[ring] : -1;
        }

        void standIn(int ring) {
            if (ring >= 0 && ring < MOST_RINGS) {
                places[ring] = 0;
                placeCount++;
            }
        }

        void stepOn(int ring) {
            if (ring >= 0 && ring < MOST_RINGS) {
                places[ring]++;
            }
        }

        /** Its place in a ring as one of the holders there; -1 if it is none. */
        int heldPlace(int ring) {
            return kind != MISSES && ring >= 0 && ring < MOST_RINGS ? places[ring] : -1;
        }

        /** Its place at home, of a MISSES the one that it would have once it had read. */
        int placeToRead() {
            int at = placeIn(home.number);
            if (kind != MISSES) {
                return at;
            }
            return Math.max(at, home.given ? home.claimed : home.claimed - home.slots);
        }

        void skipMissed() {
            int from = placeIn(home.number);
            int to = placeToRead();
            if (from >= 0 && to > from) {
                missedCount += to - from;
                spanFirst = from;
                spanLast = to - 1;
                places[home.number] = to;
            }
        }

        boolean keep(Message message) {
            if (message == null) {
                return false;
            }
            kept.become(message);
            gotCount++;
            return true;
        }

        void foldIn(Message message) {
            for (int i = 0; i < entryCount && i < entries.length; i++) {
                if (entries[i].key == message.key) {
                    // Claims may be published out of order: an older one doesn't take a newer one's place.
                    if (entries[i].number < message.number) {
                        entries[i].become(message);
                    }
                    return;
                }
            }
            if (entryCount < entries.length) {
                entries[entryCount].become(message);
                entryCount++;
            }
        }

        /** The first entry goes; its row is used again behind the others, as none is made once the post has begun. */
        boolean takeEntry() {
            if (entryCount < 1 || entryCount > entries.length) {
                return false;
            }
            Message first = entries[0];
            for (int i = 1; i < entryCount; i++) {
                entries[i - 1] = entries[i];
            }
            entryCount--;
            entries[entryCount] = first;
            return keep(first);
        }
    }
}
