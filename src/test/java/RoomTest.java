import java.lang.reflect.Array;
import java.lang.reflect.Field;
import java.lang.reflect.Modifier;
import java.util.ArrayDeque;
import java.util.Collections;
import java.util.Deque;
import java.util.IdentityHashMap;
import java.util.Set;

/** Rule 12 of ../shared/LANGUAGE.md: what a post makes is small, and once it has begun nothing more is made. */
public final class RoomTest {
    /** All calls of one run live in one room; a hundred of the fullest posts would have room in it. */
    private static final int MOST_OBJECTS = 600_000 / 100;
    private static final int MOST_ELEMENTS = 7_300_000 / 100;
    private static final Checks CHECKS = new Checks();

    private final Set<Object> seen = Collections.newSetFromMap(new IdentityHashMap<>());
    private final Deque<Object> waiting = new ArrayDeque<>();
    private int elements;

    public static void main(String[] args) throws IllegalAccessException {
        // Of all readers a FOLDS has the most rows.
        fullest("readers of kind FOLDS", "reader(4*16,0,0)=0..15");
        fullest("readers of all kinds", "reader(1..7,0,1)=0..6 reader(4,1,0)=7 reader(5,2,3)=8 join(8,4|5)=1 "
            + "reader(2*3,0,0)=9..11 name(6,1|2|9|10)=1 reader(7*4,1,7)=12..15 name(2,1)=KIND name(6,5)=FULL");
        CHECKS.end();
    }

    private static void fullest(String name, String readers) throws IllegalAccessException {
        CHECKS.part(name);
        RingPost post = new RingPost();
        call(post, "ring(64*8)=0..7 " + readers);
        RoomTest before = new RoomTest();
        before.count(post);
        CHECKS.due("objects", before.seen.size(), before.seen.size() <= MOST_OBJECTS, "at most " + MOST_OBJECTS);
        CHECKS.due("elements", before.elements, before.elements <= MOST_ELEMENTS, "at most " + MOST_ELEMENTS);
        call(post, "begin()=1");
        for (int i = 0; i < 60; i++) {
            call(post, "claim(0," + i + ")=" + i + " fill(0," + i + ",0,1)=1 copy(0," + i + ",0,0,8)=1 publish(0," + i
                + "," + i % 32 + ",8)=1 round()");
        }
        call(post, "batch(2,0,64)=0 claim(2,0)=HELD again()=HELD close(3)=1 give(6)=1 stuck()=0 told(8,0)=FOUND");
        RoomTest after = new RoomTest();
        after.count(post);
        CHECKS.due("the same objects as ahead of the beginning", after.seen.equals(before.seen), true);
    }

    private static void call(RingPost post, String text) {
        for (Call call : Call.all(text)) {
            long answer = call.answerOf(post);
            CHECKS.due(call.text, answer, call.isDue(answer), call.dueAsText());
        }
    }

    private void count(Object root) throws IllegalAccessException {
        reach(root);
        while (!waiting.isEmpty()) {
            Object next = waiting.remove();
            if (next.getClass().isArray()) {
                countArray(next);
            } else {
                countFields(next);
            }
        }
    }

    private void reach(Object object) {
        if (object != null && seen.add(object)) {
            waiting.add(object);
        }
    }

    private void countArray(Object array) {
        int length = Array.getLength(array);
        elements += length;
        for (int i = 0; i < length && !array.getClass().getComponentType().isPrimitive(); i++) {
            reach(Array.get(array, i));
        }
    }

    private void countFields(Object object) throws IllegalAccessException {
        for (Field field : object.getClass().getDeclaredFields()) {
            if (!Modifier.isStatic(field.getModifiers())) {
                elements++;
                field.setAccessible(true);
                if (!field.getType().isPrimitive()) {
                    reach(field.get(object));
                }
            }
        }
    }
}
