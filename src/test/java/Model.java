import java.util.ArrayList;
import java.util.List;
import java.util.TreeMap;
import java.util.TreeSet;

/**
 * The document written a second time, by its words and without thought of room or speed: every claim is kept for
 * ever, and OPEN, LOST, HELD UP and READY are looked up as the terms say them.
 */
final class Model {
    private static final class Claim {
        int ring;
        int number;
        long stamp;
        int key;
        int length;
        long[] longs = new long[8];
        boolean published;
    }

    private static final class Ring {
        int slots;
        boolean closed;
        boolean given;
        List<Claim> claims = new ArrayList<>();

        boolean lost(int q) {
            return given || q + slots < claims.size();
        }

        boolean made(int q) {
            return q >= 0 && q < claims.size();
        }

        boolean open(int q) {
            return made(q) && !claims.get(q).published;
        }

        boolean published(int q) {
            return made(q) && claims.get(q).published;
        }
    }

    private static final class Reader {
        int kind;
        int ring;
        int target = -1;
        TreeMap<Integer, Integer> places = new TreeMap<>();
        List<Integer> names = new ArrayList<>();
        List<Claim> entries = new ArrayList<>();
        Claim got;
        int gotCount;
        int missed;
        int spanFirst = -1;
        int spanLast = -1;
    }

    private final List<Ring> rings = new ArrayList<>();
    private final List<Reader> readers = new ArrayList<>();
    private final int[] counts = new int[7];
    private List<Integer> circle = new ArrayList<>();
    private int latest;
    private int by = -1;
    private Integer refusal;
    private boolean begun;

    int ring(int slots) {
        if (slots < 0) return find(3);
        if (!List.of(1, 2, 4, 8, 16, 32, 64).contains(slots)) return RingPost.NUMBER;
        if (begun) return RingPost.STATE;
        if (rings.size() == 8) return RingPost.FULL;
        Ring made = new Ring();
        made.slots = slots;
        rings.add(made);
        return rings.size() - 1;
    }

    int reader(int kind, int ring, int other) {
        if (kind < 1 || kind > 7 || noRing(ring)) return RingPost.NUMBER;
        if ((kind == 5 || kind == 7) && (noRing(other) || other == ring)) return RingPost.NUMBER;
        if (kind == 6 && noReader(other)) return RingPost.NUMBER;
        if (begun) return RingPost.STATE;
        if (kind == 6 && !readers.get(other).places.containsKey(ring)) return RingPost.KIND;
        if (readers.size() == 16) return RingPost.FULL;
        Reader made = new Reader();
        made.kind = kind;
        made.ring = ring;
        if (kind == 2 || kind == 3 || kind >= 5) made.places.put(ring, 0);
        if (kind == 5) made.places.put(other, 0);
        if (kind == 6) made.names.add(other);
        if (kind == 7) made.target = other;
        readers.add(made);
        return readers.size() - 1;
    }

    int join(int reader, int ring) {
        if (noReader(reader) || noRing(ring)) return RingPost.NUMBER;
        if (begun) return RingPost.STATE;
        Reader merge = readers.get(reader);
        if (merge.kind != 5) return RingPost.KIND;
        if (merge.places.containsKey(ring)) return RingPost.THERE;
        if (merge.places.size() == 4) return RingPost.FULL;
        merge.places.put(ring, 0);
        return 1;
    }

    int name(int reader, int other) {
        if (noReader(reader) || noReader(other)) return RingPost.NUMBER;
        if (begun) return RingPost.STATE;
        Reader namer = readers.get(reader);
        if (namer.kind != 6 && namer.kind != 7) return RingPost.KIND;
        if (!readers.get(other).places.containsKey(namer.ring)) return RingPost.KIND;
        if (other == reader || namer.names.contains(other)) return RingPost.THERE;
        if (namer.names.size() == 4) return RingPost.FULL;
        if (comes(other, reader)) {
            circle = new ArrayList<>(List.of(reader, other));
            for (int at = other; !readers.get(at).names.contains(reader); circle.add(at)) {
                at = leastOnTheWay(at, reader);
            }
            return RingPost.CIRCLE;
        }
        namer.names.add(other);
        return 1;
    }

    private boolean comes(int from, int to) {
        for (int next : readers.get(from).names) {
            if (next == to || comes(next, to)) return true;
        }
        return false;
    }

    private int leastOnTheWay(int from, int to) {
        for (int next : new TreeSet<>(readers.get(from).names)) {
            if (comes(next, to)) return next;
        }
        throw new IllegalStateException("a circle without a way");
    }

    int circle(int i) {
        return i >= 0 && i < circle.size() ? circle.get(i) : -1;
    }

    int begin() {
        if (begun) return RingPost.STATE;
        begun = true;
        return 1;
    }

    int made() {
        int rows = 0;
        for (Ring each : rings) rows += 1 + each.slots;
        for (Reader each : readers) rows += each.kind == 4 ? 33 : 1;
        return rows;
    }

    int claim(int ring, long stamp) {
        return batch(ring, stamp, 1);
    }

    int batch(int ring, long stamp, int n) {
        int answer = tryBatch(ring, stamp, n);
        if (answer < 0) refusal = answer;
        return answer;
    }

    private int tryBatch(int ring, long stamp, int n) {
        if (noRing(ring) || n < 1 || n > rings.get(ring).slots) return RingPost.NUMBER;
        if (!begun) return RingPost.STATE;
        Ring r = rings.get(ring);
        if (r.given) return RingPost.GIVEN;
        if (r.closed) return RingPost.CLOSED;
        if (!r.claims.isEmpty() && stamp < last(ring)) return RingPost.FALLS;
        int first = r.claims.size();
        // One by one, and taken back if one of them is held up when its turn comes.
        for (int i = 0; i < n; i++) {
            if (heldUp(ring)) {
                by = holdersBehind(ring).isEmpty() ? -1 : holdersBehind(ring).get(0);
                while (r.claims.size() > first) r.claims.remove(r.claims.size() - 1);
                return RingPost.HELD;
            }
            newClaim(ring, stamp);
        }
        return first;
    }

    private Claim newClaim(int ring, long stamp) {
        Claim made = new Claim();
        made.ring = ring;
        made.number = rings.get(ring).claims.size();
        made.stamp = stamp;
        rings.get(ring).claims.add(made);
        return made;
    }

    private boolean heldUp(int ring) {
        Ring r = rings.get(ring);
        int n = r.claims.size();
        return n >= r.slots && (r.open(n - r.slots) || !holdersBehind(ring).isEmpty());
    }

    private List<Integer> holdersBehind(int ring) {
        Ring r = rings.get(ring);
        List<Integer> behind = new ArrayList<>();
        for (int holder : holders(ring)) {
            if (readers.get(holder).places.get(ring) <= r.claims.size() - r.slots) behind.add(holder);
        }
        return behind;
    }

    private List<Integer> holders(int ring) {
        List<Integer> all = new ArrayList<>();
        for (int i = 0; i < readers.size(); i++) {
            Reader each = readers.get(i);
            if (each.kind != 3 && each.places.containsKey(ring)) all.add(i);
        }
        return all;
    }

    int by() {
        return by;
    }

    int again() {
        return refusal == null ? find(6) : refusal;
    }

    int fill(int ring, int q, int i, long v) {
        if (noRing(ring)) return RingPost.NUMBER;
        if (!begun) return RingPost.STATE;
        if (rings.get(ring).given) return find(1);
        if (!rings.get(ring).open(q)) return RingPost.NOT;
        if (i < 0 || i > 7) return find(2);
        rings.get(ring).claims.get(q).longs[i] = v;
        return 1;
    }

    int copy(int ring, int q, int reader, int from, int n) {
        if (noRing(ring) || noReader(reader)) return RingPost.NUMBER;
        if (!begun) return RingPost.STATE;
        if (rings.get(ring).given) return find(1);
        if (!rings.get(ring).open(q)) return RingPost.NOT;
        if (from < 0 || n < 0 || (long) from + n > 8) return find(5);
        for (int i = 0; i < n; i++) {
            rings.get(ring).claims.get(q).longs[i] = word(reader, from + i);
        }
        return 1;
    }

    int publish(int ring, int q, int key, int length) {
        if (noRing(ring) || key < 0 || key > 31 || length < 0 || length > 8) return RingPost.NUMBER;
        if (!begun) return RingPost.STATE;
        if (rings.get(ring).given) return RingPost.GIVEN;
        if (!rings.get(ring).open(q)) return RingPost.NOT;
        published(rings.get(ring).claims.get(q), key, length);
        return 1;
    }

    private void published(Claim claim, int key, int length) {
        claim.key = key;
        claim.length = length;
        claim.published = true;
        for (Reader each : readers) {
            if (each.kind == 4 && each.ring == claim.ring) fold(each.entries, claim);
        }
    }

    private void fold(List<Claim> entries, Claim claim) {
        for (int i = 0; i < entries.size(); i++) {
            if (entries.get(i).key == claim.key) {
                if (entries.get(i).number < claim.number) entries.set(i, claim);
                return;
            }
        }
        entries.add(claim);
    }

    int close(int ring) {
        if (noRing(ring)) return RingPost.NUMBER;
        if (!begun) return RingPost.STATE;
        if (rings.get(ring).given) return RingPost.GIVEN;
        if (rings.get(ring).closed) return RingPost.CLOSED;
        rings.get(ring).closed = true;
        return 1;
    }

    int give(int ring) {
        if (noRing(ring)) return RingPost.NUMBER;
        if (!begun) return RingPost.STATE;
        if (rings.get(ring).given) return RingPost.GIVEN;
        if (openOnes(ring) > 0) return RingPost.HELD;
        for (int holder : holders(ring)) {
            if (readers.get(holder).places.get(ring) < rings.get(ring).claims.size()) return RingPost.HELD;
        }
        rings.get(ring).given = true;
        return 1;
    }

    private int openOnes(int ring) {
        int count = 0;
        for (Claim each : rings.get(ring).claims) count += each.published ? 0 : 1;
        return count;
    }

    int told(int ring, int what) {
        if (what < 0 || what > 6) return RingPost.NUMBER;
        if (noRing(ring)) return find(2);
        Ring r = rings.get(ring);
        int least = -1;
        for (int holder : holders(ring)) {
            int place = readers.get(holder).places.get(ring);
            if (least == -1 || place < least) least = place;
        }
        int[] all = {r.slots, r.claims.size(), openOnes(ring), least, holders(ring).size(), heldUp(ring) ? 1 : 0,
            r.given ? 2 : r.closed ? 1 : 0};
        return all[what];
    }

    long last(int ring) {
        if (noRing(ring) || rings.get(ring).claims.isEmpty()) return 0;
        List<Claim> claims = rings.get(ring).claims;
        return claims.get(claims.size() - 1).stamp;
    }

    int read(int reader) {
        if (!begun) return RingPost.STATE;
        if (noReader(reader)) return find(2);
        Reader r = readers.get(reader);
        Ring ring = rings.get(r.ring);
        if (r.kind == 3) miss(r, ring.given ? ring.claims.size() : ring.claims.size() - ring.slots);
        if (r.kind != 4 && r.kind != 5 && ring.given) return find(1);
        Claim next = next(r);
        if (next == null) return 0;
        r.got = next;
        r.gotCount++;
        if (r.kind == 4) r.entries.remove(0);
        if (r.places.containsKey(next.ring)) r.places.merge(next.ring, 1, Integer::sum);
        if (r.kind == 7) echo(next, r.target);
        return 1;
    }

    private void miss(Reader r, int to) {
        int from = r.places.get(r.ring);
        if (to <= from) return;
        r.missed += to - from;
        r.spanFirst = from;
        r.spanLast = to - 1;
        r.places.put(r.ring, to);
    }

    private void echo(Claim claim, int target) {
        boolean first = rings.get(target).claims.isEmpty();
        Claim made = newClaim(target, first ? claim.stamp : Math.max(claim.stamp, last(target)));
        made.longs = claim.longs.clone();
        published(made, claim.key, claim.length);
    }

    /** What reading now would get; null if it is nothing. */
    private Claim next(Reader r) {
        if (r.kind == 4) return r.entries.isEmpty() ? null : r.entries.get(0);
        if (r.kind == 5) return nextOfMerge(r);
        Ring ring = rings.get(r.ring);
        if (ring.given) return null;
        if (r.kind == 1) return nextSeen(r, ring);
        int at = placeToBe(r);
        if (!ring.published(at)) return null;
        if (!lateNames(r).isEmpty()) return null;
        if (r.kind == 7 && shut(r.target)) return null;
        return ring.claims.get(at);
    }

    private Claim nextSeen(Reader r, Ring ring) {
        Claim newest = null;
        for (Claim each : ring.claims) {
            if (each.published && !ring.lost(each.number)) newest = each;
        }
        boolean isNew = newest != null && (r.got == null || newest.number > r.got.number);
        return isNew ? newest : null;
    }

    private int placeToBe(Reader r) {
        Ring ring = rings.get(r.ring);
        int at = r.places.get(r.ring);
        return r.kind == 3 ? Math.max(at, ring.claims.size() - ring.slots) : at;
    }

    private TreeSet<Integer> lateNames(Reader r) {
        TreeSet<Integer> late = new TreeSet<>();
        for (int each : r.names) {
            if (readers.get(each).places.get(r.ring) <= r.places.get(r.ring)) late.add(each);
        }
        return late;
    }

    private boolean shut(int target) {
        return rings.get(target).given || rings.get(target).closed || heldUp(target);
    }

    private List<Integer> awaited(Reader merge) {
        List<Integer> others = new ArrayList<>();
        for (int ring : merge.places.keySet()) {
            Ring r = rings.get(ring);
            boolean allRead = merge.places.get(ring) == r.claims.size();
            if (!r.given && !(r.closed && allRead)) others.add(ring);
        }
        return others;
    }

    private Claim nextOfMerge(Reader merge) {
        Claim best = null;
        for (int ring : awaited(merge)) {
            int at = merge.places.get(ring);
            if (!rings.get(ring).published(at)) return null;
            Claim claim = rings.get(ring).claims.get(at);
            if (best == null || claim.stamp < best.stamp) best = claim;
        }
        return best;
    }

    int round() {
        if (!begun) return RingPost.STATE;
        int count = 0;
        for (int i = 0; i < readers.size(); i++) {
            if (read(i) == 1) count++;
        }
        return count;
    }

    long got(int reader, int what) {
        if (noReader(reader) || readers.get(reader).got == null || what < 0 || what > 4) return -1;
        Claim got = readers.get(reader).got;
        return new long[] {got.ring, got.number, got.stamp, got.key, got.length}[what];
    }

    long word(int reader, int i) {
        if (noReader(reader) || readers.get(reader).got == null || i < 0 || i > 7) return 0;
        return readers.get(reader).got.longs[i];
    }

    int of(int reader, int what) {
        if (what < 0 || what > 8) return RingPost.NUMBER;
        if (noReader(reader)) return find(2);
        Reader r = readers.get(reader);
        return new int[] {r.kind, r.ring, place(reader, r.ring), r.missed, r.spanFirst, r.spanLast, r.entries.size(),
            r.names.size(), r.gotCount}[what];
    }

    int place(int reader, int ring) {
        return noReader(reader) || noRing(ring) ? -1 : readers.get(reader).places.getOrDefault(ring, -1);
    }

    int named(int reader, int i) {
        if (noReader(reader)) return find(2);
        Reader r = readers.get(reader);
        if (r.kind < 6) return find(4);
        return i >= 0 && i < r.names.size() ? r.names.get(i) : -1;
    }

    int entry(int reader, int i) {
        if (noReader(reader)) return find(2);
        Reader r = readers.get(reader);
        if (r.kind != 4) return find(4);
        return i >= 0 && i < r.entries.size() ? r.entries.get(i).key : -1;
    }

    int target(int reader) {
        if (noReader(reader)) return find(2);
        return readers.get(reader).kind == 7 ? readers.get(reader).target : find(4);
    }

    int why(int reader) {
        if (!begun) return RingPost.STATE;
        if (noReader(reader)) return RingPost.NUMBER;
        Reader r = readers.get(reader);
        Ring ring = rings.get(r.ring);
        if (next(r) != null) return 0;
        if (r.kind == 5) return awaited(r).isEmpty() ? 6 : 7;
        if (r.kind == 4) return 2;
        if (ring.given) return 1;
        if (r.kind == 1 || !ring.made(placeToBe(r))) return 2;
        if (ring.open(placeToBe(r))) return 3;
        return lateNames(r).isEmpty() ? 5 : 4;
    }

    int on(int reader) {
        int why = why(reader);
        if (why == 3) return placeToBe(readers.get(reader));
        if (why == 4) return lateNames(readers.get(reader)).first();
        if (why == 5) return readers.get(reader).target;
        if (why != 7) return -1;
        Reader merge = readers.get(reader);
        for (int ring : awaited(merge)) {
            if (!rings.get(ring).published(merge.places.get(ring))) return ring;
        }
        throw new IllegalStateException("a merge that waits on nothing");
    }

    boolean stuck() {
        if (!begun) return false;
        for (Reader each : readers) {
            if (next(each) != null) return false;
        }
        int live = 0;
        for (int i = 0; i < rings.size(); i++) {
            if (rings.get(i).given || rings.get(i).closed) continue;
            live++;
            if (!heldUp(i)) return false;
        }
        return live > 0;
    }

    int found(int what) {
        if (what < 0 || what > 6) return -1;
        return what == 0 ? latest : counts[what];
    }

    /** The oldest claim of a ring that is open; its next claim if there is none, 0 if there is no such ring. */
    int oldestOpen(int ring) {
        if (noRing(ring)) return 0;
        List<Claim> claims = rings.get(ring).claims;
        int q = 0;
        while (q < claims.size() && claims.get(q).published) q++;
        return q;
    }

    int ringCount() {
        return rings.size();
    }

    int readerCount() {
        return readers.size();
    }

    private boolean noRing(int ring) {
        return ring < 0 || ring >= rings.size();
    }

    private boolean noReader(int reader) {
        return reader < 0 || reader >= readers.size();
    }

    private int find(int which) {
        counts[which]++;
        latest = which;
        return RingPost.FOUND;
    }
}
