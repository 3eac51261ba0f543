import java.lang.management.ManagementFactory;
import java.lang.reflect.Array;
import java.lang.reflect.Field;
import java.lang.reflect.Modifier;
import java.util.ArrayDeque;
import java.util.Collections;
import java.util.Deque;
import java.util.IdentityHashMap;
import java.util.Set;

/** All calls of a run live in one room: an object is small, and calls on it make nothing. */
public final class RoomTest {
    // The room has 600,000 objects and 7,300,000 elements: so many are enough for 512 new streets and twice more.
    private static final int MOST_OBJECTS = 100;
    private static final int MOST_ELEMENTS = 4750;

    private RoomTest() {
    }

    public static void main(String[] args) throws IllegalAccessException {
        Check.part("the room");
        AllSawIt x = new AllSawIt();
        int[] fresh = size(x);
        Check.yes(fresh[0] + " objects are few", fresh[0] <= MOST_OBJECTS);
        Check.yes(fresh[1] + " elements are few", fresh[1] <= MOST_ELEMENTS);
        Check.tell(x, "house 2 sees 0 to 5 up 6 for 12;house 4 sees 3 to 9 up 8 for 10 spite 3;"
                + "house 10 sees 2 to 12 up 20 for 14;deed 4 at 9;deed 5 at 9 hangs 0;deed 20 at 9;mists 4");
        x.street();
        allCalls(x, 0);
        com.sun.management.ThreadMXBean threads =
                (com.sun.management.ThreadMXBean) ManagementFactory.getThreadMXBean();
        threads.getCurrentThreadAllocatedBytes();
        long before = threads.getCurrentThreadAllocatedBytes();
        for (int i = 0; i < 200; i++) {
            allCalls(x, i);
        }
        long made = threads.getCurrentThreadAllocatedBytes() - before;
        Check.yes(made + " bytes made by calls are none to speak of", made < 20000);
        int[] later = size(x);
        Check.due("objects later", later[0], fresh[0]);
        Check.due("elements later", later[1], fresh[1]);
        Check.end();
    }

    /** One call of each kind; none of them throws. */
    private static void allCalls(AllSawIt x, int i) {
        int p = i % 24;
        int t = i * 7 % 24;
        x.feed(0x73656520, 0x69662075, 0x70206f72, 0x20776964, 0x6f770000);
        x.end(9);
        x.law();
        x.end(0);
        x.denied(i % 2 == 0);
        x.ask();
        x.image();
        if (x.deed(2, 5) == 0) {
            x.done(2);
        }
        x.away(0, i % 3 == 0);
        x.up(1, t, 24);
        x.spite(2, i % 10);
        if (x.count(0) < 8) {
            x.lodger(0);
        }
        x.days(2);
        x.witnesses(p, t);
        x.open(t, false);
        x.open(t, true);
        x.best();
        x.wake(p, t);
        x.mirrors(p, t);
        x.unseen(p);
        x.thief(p, t, 0);
        x.clear(p, t);
        x.soonest(1, 3);
        x.ahead(9, 2);
        x.later(1);
        x.holds();
        x.twins();
        x.eyes(t);
        x.alone(t, 0);
        x.book(true);
        x.trial(3, true);
        x.span(3, false);
        x.led(0, true);
        x.log(0, 0);
        x.house(0, 10);
        x.count(8);
        x.undo();
        x.back();
    }

    private static int[] size(Object root) throws IllegalAccessException {
        Set<Object> seen = Collections.newSetFromMap(new IdentityHashMap<>());
        Deque<Object> open = new ArrayDeque<>();
        open.push(root);
        seen.add(root);
        int elements = 0;
        while (!open.isEmpty()) {
            Object one = open.pop();
            if (one.getClass().isArray()) {
                int n = Array.getLength(one);
                elements += n;
                for (int i = 0; i < n && !one.getClass().getComponentType().isPrimitive(); i++) {
                    reach(Array.get(one, i), seen, open);
                }
                continue;
            }
            for (Field f : one.getClass().getDeclaredFields()) {
                if (Modifier.isStatic(f.getModifiers())) {
                    continue;
                }
                elements++;
                if (!f.getType().isPrimitive()) {
                    f.setAccessible(true);
                    reach(f.get(one), seen, open);
                }
            }
        }
        return new int[] {seen.size(), elements};
    }

    private static void reach(Object one, Set<Object> seen, Deque<Object> open) {
        if (one != null && seen.add(one)) {
            open.push(one);
        }
    }
}
