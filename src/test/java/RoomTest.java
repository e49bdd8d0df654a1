import java.lang.management.ManagementFactory;
import java.lang.reflect.Array;
import java.lang.reflect.Field;
import java.lang.reflect.Modifier;
import java.util.Collections;
import java.util.IdentityHashMap;
import java.util.Set;

/** What an object takes of the room, and that calls make no objects at all. */
public final class RoomTest {
    private static final com.sun.management.ThreadMXBean THREADS =
            (com.sun.management.ThreadMXBean) ManagementFactory.getThreadMXBean();
    private static long elements = 0;

    public static void main(String[] args) throws Exception {
        RainOnTheOne x = new RainOnTheOne();
        Set<Object> found = Collections.newSetFromMap(new IdentityHashMap<>());
        count(x, found);
        System.out.println(found.size() + " objects, " + elements + " fields and elements");
        Check.due("objects, 100 at most", found.size() <= 100, true);
        Check.due("fields and elements, 12000 at most", elements <= 12000, true);
        warm();
        // what loads late takes some bytes at first, so the least of some tries counts
        long least = Long.MAX_VALUE;
        for (int i = 0; i < 20; i++) {
            RainOnTheOne y = new RainOnTheOne();
            long before = bytes();
            all(y);
            least = Math.min(least, bytes() - before);
        }
        Check.due("bytes that calls took", least, 0);
        Check.finish();
    }

    private static void count(Object o, Set<Object> found) throws Exception {
        if (o == null || !found.add(o)) {
            return;
        }
        if (o.getClass().isArray()) {
            elements += Array.getLength(o);
            if (o instanceof Object[]) {
                for (Object part : (Object[]) o) {
                    count(part, found);
                }
            }
            return;
        }
        for (Field f : o.getClass().getDeclaredFields()) {
            if (!Modifier.isStatic(f.getModifiers())) {
                elements++;
                f.setAccessible(true);
                if (!f.getType().isPrimitive()) {
                    count(f.get(o), found);
                }
            }
        }
    }

    private static long bytes() {
        return THREADS.getThreadAllocatedBytes(Thread.currentThread().getId());
    }

    private static void warm() {
        for (int i = 0; i < 50; i++) {
            all(new RainOnTheOne());
            bytes();
        }
    }

    /** Every call once or more; "draw;minute 3;" is on the tape. */
    private static int all(RainOnTheOne x) {
        int sum = x.person(8, true) + x.person(20, false) + (x.field(3, 4) ? 1 : 0) + (x.shed(7, true) ? 1 : 0);
        sum += x.feed(0x64726177, 0x3b6d696e, 0x75746520, 0x333b0000, 0) + x.end(14) + x.text() + x.fault(0);
        sum += (x.by(0) ? 1 : 0) + (x.walk(0, 9) ? 1 : 0) + (x.hat(0, false) ? 1 : 0) + x.draw() + x.minute(60);
        sum += x.played(0) + x.years(5, 40) + x.undo() + x.of(0, 4) + x.of(0, 5) + x.ofCell(8, 3) + x.is(3);
        sum += x.book(0, 0) + x.foretold(60, 1, 0) + x.when(0) + x.steps(0, 29) + x.way(0, 29, 3);
        sum += x.caught(20, 0, 2) + x.flee(20, 0, 1) + x.tour(0, 31 << 8, 2) + x.cut(14, 28) + x.narrows();
        sum += (x.cost(0, 0, 3) ? 1 : 0) + x.roster(4, 0) + x.swap(4, 0, 1) + x.seen(3, 9) + x.from(true);
        sum += (int) x.likely(9, 3, true) + x.days(true) + x.said(0, 9) + x.whose() + x.thirsty(true);
        sum += x.driest() + x.wettest() + x.near(3) + x.ledger(-1) + x.image() + x.back() + x.about(0);
        return sum;
    }
}
