import java.lang.management.ManagementFactory;
import java.lang.reflect.Array;
import java.lang.reflect.Field;
import java.lang.reflect.Modifier;
import java.util.ArrayDeque;
import java.util.Collections;
import java.util.Deque;
import java.util.IdentityHashMap;
import java.util.Set;

/** All calls of one run live in one room: how much an object has, that it does not grow, that no call makes one. */
public final class RoomTest extends Checks {
    private static final int MOST_OBJECTS = 64;
    private static final int MOST_ELEMENTS = 1200;
    /** So many times every call, with the bytes of a text, are fewer than 512 calls. */
    private static final int ROUNDS = 3;
    private static final int OBJECTS = 100;

    public static void main(String[] args) throws IllegalAccessException {
        objectsStaySmall();
        callsMakeNothing();
        finish();
    }

    /** A thousand objects of 512 calls each are then a ninth of the room, in objects, and a sixth, in elements. */
    private static void objectsStaySmall() throws IllegalAccessException {
        about(1, "some 600,000 objects and arrays, 7.3 million fields and elements in all");
        MoundVotes x = new MoundVotes();
        int[] atFirst = measure(x);
        due("objects above " + MOST_OBJECTS, Math.max(atFirst[0] - MOST_OBJECTS, 0), 0);
        due("elements above " + MOST_ELEMENTS, Math.max(atFirst[1] - MOST_ELEMENTS, 0), 0);
        for (int round = 0; round < ROUNDS; round++) {
            everyCall(x);
        }
        int[] then = measure(x);
        due("objects then", then[0], atFirst[0]);
        due("elements then", then[1], atFirst[1]);
    }

    /** Objects and arrays that can be reached, fields and elements of them. */
    private static int[] measure(Object first) throws IllegalAccessException {
        Set<Object> met = Collections.newSetFromMap(new IdentityHashMap<>());
        Deque<Object> open = new ArrayDeque<>();
        met.add(first);
        open.add(first);
        int elements = 0;
        while (!open.isEmpty()) {
            Object one = open.remove();
            boolean array = one.getClass().isArray();
            int length = array ? Array.getLength(one) : 0;
            elements += length;
            for (int i = 0; i < length && !one.getClass().getComponentType().isPrimitive(); i++) {
                reach(Array.get(one, i), met, open);
            }
            for (Field f : one.getClass().getDeclaredFields()) {
                if (!Modifier.isStatic(f.getModifiers())) {
                    elements++;
                    f.setAccessible(true);
                    reach(f.getType().isPrimitive() ? null : f.get(one), met, open);
                }
            }
        }
        return new int[] {met.size(), elements};
    }

    private static void reach(Object next, Set<Object> met, Deque<Object> open) {
        if (next != null && met.add(next)) {
            open.add(next);
        }
    }

    private static void callsMakeNothing() {
        about(1, "make rows in constructors and use them again");
        var machine = (com.sun.management.ThreadMXBean) ManagementFactory.getThreadMXBean();
        long id = Thread.currentThread().getId();
        MoundVotes[] all = new MoundVotes[OBJECTS];
        for (int i = 0; i < OBJECTS; i++) {
            all[i] = new MoundVotes();
        }
        everyCall(new MoundVotes());
        machine.getThreadAllocatedBytes(id);
        long before = machine.getThreadAllocatedBytes(id);
        long sum = 0;
        for (int i = 0; i < OBJECTS * ROUNDS; i++) {
            sum += everyCall(all[i % OBJECTS]);
        }
        long made = machine.getThreadAllocatedBytes(id) - before;
        // The least object has 16 bytes; what the measuring itself makes is far below 8 bytes a round.
        due("bytes made by all rounds (sum " + sum + ")", made >= 8 * OBJECTS * ROUNDS ? made : 0, 0);
    }

    /** Each call at least once, with as much of all as there may be. */
    private static long everyCall(MoundVotes x) {
        feedAll(x, MOST);
        long sum = x.end(x.count(2)) + x.text() + x.fault();
        sum += x.rule(4) + x.lord(0, 1) + x.borough(0, 5) + x.alter(5, 1, 8) + x.give(5, NONE) + x.purse(0, 99)
            + x.price(1) + x.buy(0, 5) + x.give(5, NONE) + x.take(1);
        sum += x.carry(15, 1) + x.swings(3) + x.share(3, 0) + x.alone(5, 0) + x.cheap(0, 1) + x.able(0) + x.climb(0)
            + x.small(1) + x.line(1) + x.bribe(4, 1) + x.luck(3, 7, 0) + x.mean(3, 7, 0);
        sum += x.see(7, true) + x.owners(0) + x.seats(0) + x.ask(0, 0) + x.forget(0) + x.drift(7, 60, 1) + x.keep(0)
            + x.back(0) + x.sheet(0, 2, 40) + x.lay(0, 1, 5) + x.read(0, 2, 0, 2) + x.torn() + x.count(5);
        return sum;
    }
}
