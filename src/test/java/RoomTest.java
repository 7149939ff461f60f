import com.sun.management.ThreadMXBean;
import java.lang.management.ManagementFactory;
import java.lang.reflect.Array;
import java.lang.reflect.Field;
import java.lang.reflect.Modifier;
import java.util.Collections;
import java.util.IdentityHashMap;
import java.util.Set;

/**
 * What all calls of one run make must find room: 600,000 objects and 7.3 million fields and elements. Here an object is
 * so small that even 512 of them do, and a call makes nothing more.
 */
public final class RoomTest {
    private static final int CALLS = 512;

    public static void main(String[] args) throws IllegalAccessException {
        Set<Object> seen = Collections.newSetFromMap(new IdentityHashMap<>());
        long elements = count(new TruckPlatoons(), seen);
        System.out.println(seen.size() + " objects with " + elements + " fields and elements");
        Check.due("512 times the objects find room", CALLS * seen.size() < 600_000, true);
        Check.due("512 times the elements find room", CALLS * elements < 7_300_000, true);
        Check.due("bytes that calls make", bytesOfCalls() < 1000, true);
        Check.end();
    }

    private static long count(Object object, Set<Object> seen) throws IllegalAccessException {
        if (object == null || !seen.add(object)) {
            return 0;
        }
        if (object.getClass().isArray()) {
            long sum = Array.getLength(object);
            for (int at = 0; !object.getClass().getComponentType().isPrimitive() && at < Array.getLength(object); at++) {
                sum += count(Array.get(object, at), seen);
            }
            return sum;
        }
        long sum = 0;
        for (Field field : object.getClass().getDeclaredFields()) {
            if (!Modifier.isStatic(field.getModifiers())) {
                sum++;
                field.setAccessible(true);
                sum += field.getType().isPrimitive() ? 0 : count(field.get(object), seen);
            }
        }
        return sum;
    }

    private static long bytesOfCalls() {
        TruckPlatoons x = new TruckPlatoons();
        calls(x);
        ThreadMXBean threads = (ThreadMXBean) ManagementFactory.getThreadMXBean();
        threads.getCurrentThreadAllocatedBytes();
        long before = threads.getCurrentThreadAllocatedBytes();
        for (int time = 0; time < 20; time++) {
            calls(x);
        }
        return threads.getCurrentThreadAllocatedBytes() - before;
    }

    /** Loads two roads with two trucks, plays a script that merges them, and calls what has no text. */
    private static void calls(TruckPlatoons x) {
        x.appendInput(0x726f6164, 0x20302031, 0x20392035, 0x303b726f, 0x61642031);
        x.appendInput(0x20302039, 0x2035303b, 0x74727563, 0x6b203020, 0x39392036);
        x.appendInput(0x20302031, 0x20303b74, 0x7275636b, 0x20352039, 0x39203720);
        x.appendInput(0x3020313b, 0x20202020, 0x20202020, 0x20202020, 0x20202020);
        x.load();
        x.appendInput(0x6d657267, 0x65203120, 0x303b6875, 0x72727920, 0x303b616c);
        x.appendInput(0x6c3b7265, 0x6c617820, 0x303b2020, 0x20202020, 0x20202020);
        x.play();
        for (int what = 0; what < 11; what++) {
            x.count(what);
            x.road(0, what);
            x.truck(1, what);
            x.place(1, 0, what);
            x.platoon(0, 0, what);
        }
        x.together(0, 1);
        x.pairSaved(0, 1);
        x.run(0, 1, 2);
        x.common(0, 1);
        x.neededSpeed(0, 0, 30);
        x.setWait(0, 0, 1);
        x.setSpeed(0, 0, 40);
        x.setStart(0, 4);
        x.gain(0, 1);
        x.merge(0, 1);
        x.bestPartner(1);
        x.mergeAll();
        x.onRoad(0, 5);
        x.bestRoad();
        x.orderLoss(0, 0);
        x.bestMember(0, 0, 1);
        x.rate(0);
        x.shareBits();
        x.quickest(0, 1);
        x.write(1);
        x.undo();
        x.digest();
        x.saveSnapshot(0);
        x.restoreSnapshot(0);
    }
}
