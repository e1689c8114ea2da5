import java.lang.management.ManagementFactory;
import java.lang.reflect.Array;
import java.lang.reflect.Field;
import java.lang.reflect.Modifier;
import java.util.ArrayDeque;
import java.util.Deque;
import java.util.IdentityHashMap;
import java.util.Map;

/** A new object is small, and no call makes anything new: a run of calls stays within its room. */
public final class RoomTest {
    private static final Check CHECK = new Check("room");
    private static final int CALLS = 512;
    private static final int OBJECTS = 600_000;
    private static final int ELEMENTS = 7_300_000;

    public static void main(String[] args) throws IllegalAccessException {
        sizeOfAnObject();
        callsMakeNothing();
        CHECK.finish();
    }

    /** Even a run that makes a new object with each of its calls has room enough. */
    private static void sizeOfAnObject() throws IllegalAccessException {
        Map<Object, Boolean> seen = new IdentityHashMap<>();
        Deque<Object> open = new ArrayDeque<>();
        open.add(new FeltZither());
        int elements = 0;
        while (!open.isEmpty()) {
            Object one = open.remove();
            if (seen.put(one, true) != null) {
                continue;
            }
            if (one.getClass().isArray()) {
                elements += Array.getLength(one);
                for (int i = 0; i < Array.getLength(one) && !one.getClass().getComponentType().isPrimitive(); i++) {
                    open.add(Array.get(one, i));
                }
                continue;
            }
            for (Field field : one.getClass().getDeclaredFields()) {
                if (!Modifier.isStatic(field.getModifiers())) {
                    elements++;
                    field.setAccessible(true);
                    if (!field.getType().isPrimitive()) {
                        open.add(field.get(one));
                    }
                }
            }
        }
        System.out.println("room: " + seen.size() + " objects and arrays, " + elements + " fields and elements");
        CHECK.holds("objects", seen.size() * CALLS < OBJECTS);
        CHECK.holds("elements", elements * CALLS < ELEMENTS);
    }

    private static FeltZither large() {
        FeltZither x = new FeltZither();
        for (int s = 0; s < 36; s++) {
            x.string(12 + s, s % 11 == 10);
        }
        for (int b = 0; b < 12; b++) {
            x.bar(24 * (b % 2) + 7 * b % 12);
            x.offer(24 * (b % 2) + 7 * b % 12);
        }
        for (int g = 0; g < 7; g++) {
            x.sheet(0, 1, 48);
            for (int i = 0; i < 24; i++) {
                x.put(0, 2 * i, 24 * ((i * g + i) % 2) + (i * g + 3 * i) % 12);
                x.put(0, 2 * i + 1, 12 + (i * 5 + g) % 36);
            }
            x.song(0, 1, 0, 24);
        }
        x.sheet(1, 0, 36);
        return x;
    }

    private static long callMany(FeltZither x) {
        long sum = 0;
        for (int k = 0; k < 12; k++) {
            sum += x.string(30, false) + x.tune(k, 20 + k) + x.bar(k) + x.blank() + x.felt(k, k, true) + x.wear(k, 1, true);
            sum += x.ofString(k, k % 4) + x.ofBar(k, k % 6) + x.has(k, k) + x.sounds(k, k) + x.classes(k) + x.chord(k);
            sum += x.gives(k, k) + x.lack(k) + x.hold(k) + x.holds(k % 3) + x.strum(k, k % 4) + x.song(0, 1, 0, 24);
            sum += x.step(0, k, k % 4) + x.key(0, k % 6) + x.misses(0, k % 5) + x.bestKey(k % 7) + x.playable() + x.offer(k);
            sum += x.serves(k) + x.fewest() + x.most(k) + x.change(k, 0) + x.way() + x.least() + x.arrange();
            sum += x.trouble(k % 7) + x.grip(k % 7, k) + x.heard(k, 1, 0, 0) + x.worn() + x.sure(k, k) + x.unhear();
            sum += x.otherwise(k, 1) + x.best(k % 3) + x.sheet(2, k % 3, k) + x.put(2, 0, k) + x.at(2, 0, k % 3) + x.lose(2);
            sum += x.tell(k) + x.name(k) + x.as(k, 1) + x.trace() + x.fault() + x.told(k % 7) + x.build(4095);
        }
        return sum;
    }

    private static void callsMakeNothing() {
        com.sun.management.ThreadMXBean beans =
                (com.sun.management.ThreadMXBean) ManagementFactory.getThreadMXBean();
        FeltZither x = large();
        long here = Thread.currentThread().getId();
        long sum = callMany(x);
        long least = Long.MAX_VALUE;
        // The machine itself may make something beside a call, but not each time.
        for (int k = 0; k < 5; k++) {
            long once = beans.getThreadAllocatedBytes(here);
            long ahead = beans.getThreadAllocatedBytes(here);
            sum += callMany(x);
            long behind = beans.getThreadAllocatedBytes(here);
            least = Math.min(least, behind - ahead - (ahead - once));
        }
        CHECK.due("bytes made by some 600 calls (sum " + sum + ")", least, 0);
    }
}
