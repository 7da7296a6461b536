import java.lang.reflect.Array;
import java.lang.reflect.Field;
import java.lang.reflect.Modifier;
import java.util.ArrayDeque;
import java.util.Deque;
import java.util.IdentityHashMap;
import java.util.Map;
import java.util.Random;

/** The room of a run: what an object holds is made with it, and the dearest calls make nothing. */
public final class RoomTest {
    private static final Checks T = new Checks("RoomTest");
    private static final int ROUNDS = 400;

    public static void main(String[] args) throws IllegalAccessException {
        PictureReel x = new PictureReel();
        long[] first = held(x);
        System.out.println("RoomTest: " + first[0] + " objects, " + first[1] + " fields and elements");
        T.due("objects are few", first[0] < 1000, true);
        T.due("fields and elements are few", first[1] < 400_000, true);
        dearestCalls(x);
        long[] last = held(x);
        T.due("objects behind 512 calls", last[0], first[0]);
        T.due("fields and elements behind 512 calls", last[1], first[1]);
        T.due("calls make less than an object a round", made() < ROUNDS * 16, true);
        T.finish();
    }

    private static void dearestCalls(PictureReel x) {
        x.begin(64, 64, 256, 0);
        Random random = new Random(1);
        for (int f = 0; f < 24; f++) {
            x.frame(0, 0, 64, 64, 0, true);
            x.paint(f, random.nextInt(4096), 1, random.nextInt(256));
        }
        for (int i = 0; i < 154; i++) {
            x.write();
            x.take();
            x.read(x.about(6));
        }
        T.due("FRAMES", x.about(5), 24);
    }

    /** The bytes that so many rounds of calls make on this thread, by the machine's own count. */
    private static long made() {
        java.lang.management.ThreadMXBean bean =
                java.lang.management.ManagementFactory.getThreadMXBean();
        if (!(bean instanceof com.sun.management.ThreadMXBean)) {
            return 0;
        }
        com.sun.management.ThreadMXBean counter = (com.sun.management.ThreadMXBean) bean;
        PictureReel x = new PictureReel();
        quietCalls(x, counter);
        return quietCalls(x, counter);
    }

    private static long quietCalls(PictureReel x, com.sun.management.ThreadMXBean counter) {
        long id = Thread.currentThread().getId();
        counter.getThreadAllocatedBytes(id);
        long before = counter.getThreadAllocatedBytes(id);
        long again = counter.getThreadAllocatedBytes(id);
        int sum = 0;
        for (int i = 0; i < ROUNDS; i++) {
            x.begin(8, 8, 4, 0);
            sum += x.frame(0, 0, 8, 8, 4, true) + x.frame(1, 1, 4, 4, 0, false);
            x.paint(0, 3, 20, 2);
            x.colour(-1, 1, i);
            x.control(1, 3, 2, 1, true);
            sum += x.write() + x.take() + x.read(x.about(6)) + x.fault(0);
            sum += x.canvas(1, 2, 2) + x.index(0, 3) + x.out(9) + x.colourOf(0, 1) + x.frameOf(0, 3);
            sum += x.feed(i, i, i, i, i) + x.read(7);
        }
        long made = counter.getThreadAllocatedBytes(id) - again - (again - before);
        return sum == Integer.MIN_VALUE ? -1 : made;
    }

    /** Objects and arrays that can be come to, and their fields and elements. */
    private static long[] held(Object root) throws IllegalAccessException {
        Map<Object, Boolean> seen = new IdentityHashMap<>();
        Deque<Object> open = new ArrayDeque<>();
        open.add(root);
        seen.put(root, true);
        long cells = 0;
        while (!open.isEmpty()) {
            Object it = open.remove();
            if (it.getClass().isArray()) {
                cells += Array.getLength(it);
                if (it instanceof Object[]) {
                    for (Object part : (Object[]) it) {
                        note(part, seen, open);
                    }
                }
                continue;
            }
            for (Field field : it.getClass().getDeclaredFields()) {
                if (!Modifier.isStatic(field.getModifiers())) {
                    cells++;
                    field.setAccessible(true);
                    if (!field.getType().isPrimitive()) {
                        note(field.get(it), seen, open);
                    }
                }
            }
        }
        return new long[] {seen.size(), cells};
    }

    private static void note(Object part, Map<Object, Boolean> seen, Deque<Object> open) {
        if (part != null && seen.put(part, true) == null) {
            open.add(part);
        }
    }
}
