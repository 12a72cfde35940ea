import java.lang.management.ManagementFactory;
import java.lang.reflect.Array;
import java.lang.reflect.Field;
import java.lang.reflect.Modifier;
import java.util.ArrayDeque;
import java.util.Collections;
import java.util.Deque;
import java.util.IdentityHashMap;
import java.util.Set;

/** All calls of a run live in one room: what an object has is made with it, and small; its calls make nothing more. */
public final class RoomTest extends Check {
    private static final int MOST_OBJECTS = 300;
    private static final int MOST_ELEMENTS = 20_000;
    private static final int ROUNDS = 20_000;
    // The machine's own bookkeeping; objects made by one call of each round would be far above.
    private static final long SOME_BYTES = 8L * ROUNDS;

    private static int objects;
    private static int elements;

    private RoomTest() {
    }

    private static void measure(Object root) throws IllegalAccessException {
        objects = 0;
        elements = 0;
        Set<Object> met = Collections.newSetFromMap(new IdentityHashMap<>());
        Deque<Object> open = new ArrayDeque<>();
        open.add(root);
        while (!open.isEmpty()) {
            Object o = open.pop();
            if (met.add(o)) {
                objects++;
                addParts(o, open);
            }
        }
    }

    private static void addParts(Object o, Deque<Object> open) throws IllegalAccessException {
        if (o.getClass().isArray()) {
            elements += Array.getLength(o);
            for (int i = 0; o instanceof Object[] all && i < all.length; i++) {
                open.push(all[i]);
            }
            return;
        }
        for (Field f : o.getClass().getDeclaredFields()) {
            if (!Modifier.isStatic(f.getModifiers())) {
                elements++;
                f.setAccessible(true);
                if (!f.getType().isPrimitive()) {
                    open.push(f.get(o));
                }
            }
        }
    }

    private static long ask(EarCode x, int citizen) {
        long sum = x.fault() + x.seen(citizen) + x.feared(true) + x.nobody() + x.relief() + x.cover();
        for (int what = 0; what < 14; what++) {
            sum += x.count(what) + (what < 5 ? x.clause(0, what) : 0) + (what < 9 ? x.citizen(citizen, what) : 0)
                    + (what < 4 ? x.matter(9, citizen, what) + x.trial(3, what) + x.log(0, what) : 0);
        }
        sum += x.habit(citizen, 0) + x.dies(citizen) + x.heirs(2) + x.risk(citizen, 9) + x.safe(citizen, 1);
        sum += x.better(citizen, 9) + x.telling(9, true) + x.deduced(citizen) + x.hush(1) + x.usual(1) + x.custom(3);
        sum += x.settles() + x.provoked(citizen, true) + x.crowd(1, 3) + x.witnesses(0, 1, 9) + x.span(2, true);
        return sum + x.first() + x.led(citizen) + x.worst();
    }

    private static long act(EarCode x) {
        long sum = x.seed(5) + x.tell(1, 0) + x.wed(0, 1) + x.baby(0) + x.days(3) + x.release(2) + x.die(0);
        for (int i = 0; i < 6; i++) {
            sum += x.undo() ? 1 : 0;
        }
        x.image();
        return sum + (x.back() ? 1 : 0);
    }

    /** Texts and rows whose ints are made once, so that the test itself makes nothing. */
    private static long read(EarCode x) {
        x.end(0);
        x.feed(0x00090101, 0x09000000, 0, 0, 0);
        x.end(6);
        long sum = x.read(0);
        x.feed(0x00090101, 0x09000000, 0, 0, 0);
        x.end(6);
        sum += x.next(0);
        // watch 100
        x.feed(0x77617463, 0x68203130, 0x30000000, 0, 0);
        x.end(9);
        sum += x.republic();
        return sum + (x.back() ? 1 : 0);
    }

    public static void main(String[] args) throws IllegalAccessException {
        EarCode x = make("never 1 if place < 2 or who > 5 and not (feast);always 1 if feast;never 2",
                "citizen fear 40 does 10 25 knows 2;citizen fear 0 does 11;citizen fear 0 does 25;seen 0 25;term 9");
        measure(x);
        int before = objects;
        is("objects are few", objects <= MOST_OBJECTS, true);
        is("fields and elements are few", elements <= MOST_ELEMENTS, true);
        x.image();
        long sum = 0;
        com.sun.management.ThreadMXBean bean = (com.sun.management.ThreadMXBean) ManagementFactory.getThreadMXBean();
        long from = 0;
        for (int i = -ROUNDS / 10; i < ROUNDS; i++) {
            if (i == 0) {
                from = bean.getCurrentThreadAllocatedBytes();
            }
            sum += ask(x, 0) + act(x) + read(x);
        }
        long bytes = bean.getCurrentThreadAllocatedBytes() - from;
        is("calls make nothing (" + bytes + " bytes in all, sum " + sum + ")", bytes <= SOME_BYTES, true);
        measure(x);
        is("objects behind all calls", objects, before);
        end("the room is " + objects + " objects, " + elements + " fields and elements");
    }
}
