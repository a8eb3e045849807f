import com.sun.management.ThreadMXBean;
import java.lang.management.ManagementFactory;
import java.lang.reflect.Array;
import java.lang.reflect.Field;
import java.lang.reflect.Modifier;
import java.nio.charset.StandardCharsets;
import java.util.Collections;
import java.util.IdentityHashMap;
import java.util.Set;

/** All calls of a run live in one room: an object is small, and no call makes anything. */
public final class RoomTest {
    private static final Check CHECK = new Check("RoomTest");
    private static final int ROUNDS = 400;
    private static final byte[] CROWN = Check.FAIR.getBytes(StandardCharsets.ISO_8859_1);
    private static final byte[] QUESTION =
        "often [seen 0 > min(5, look) or left = 0] and not times < 2".getBytes(StandardCharsets.ISO_8859_1);
    private static final byte[] ROW = {0, 0, 5};
    private static final byte[] IMAGE = new byte[25];

    private final Set<Object> seen = Collections.newSetFromMap(new IdentityHashMap<>());
    private long cells = 0;

    public static void main(String[] args) throws IllegalAccessException {
        EmptyHat hat = new EmptyHat();
        long[] atFirst = size(hat);
        CHECK.due("objects and arrays " + atFirst[0], atFirst[0] <= 300, true);
        CHECK.due("fields and elements " + atFirst[1], atFirst[1] <= 20000, true);
        long sum = 0;
        for (int i = 0; i < ROUNDS; i++) {
            sum += round(hat);
        }
        long[] used = size(hat);
        CHECK.due("objects and arrays behind many calls", used[0], atFirst[0]);
        CHECK.due("fields and elements behind many calls", used[1], atFirst[1]);
        // The measuring itself may make a little; a call that made one object would show by ROUNDS times 16 bytes.
        ThreadMXBean meter = (ThreadMXBean) ManagementFactory.getThreadMXBean();
        meter.getCurrentThreadAllocatedBytes();
        long before = meter.getCurrentThreadAllocatedBytes();
        for (int i = 0; i < ROUNDS; i++) {
            sum += round(hat);
        }
        long made = meter.getCurrentThreadAllocatedBytes() - before;
        CHECK.due("bytes made by calls " + made + " (" + sum + ")", made < ROUNDS * 8L, true);
        CHECK.finish();
    }

    private static long[] size(EmptyHat hat) throws IllegalAccessException {
        RoomTest room = new RoomTest();
        room.walk(hat);
        return new long[] {room.seen.size(), room.cells};
    }

    private void walk(Object o) throws IllegalAccessException {
        if (o == null || !seen.add(o)) {
            return;
        }
        Class<?> c = o.getClass();
        if (c.isArray()) {
            cells += Array.getLength(o);
            for (int i = 0; !c.getComponentType().isPrimitive() && i < Array.getLength(o); i++) {
                walk(Array.get(o, i));
            }
            return;
        }
        for (Field f : c.getDeclaredFields()) {
            if (!Modifier.isStatic(f.getModifiers())) {
                cells++;
                f.setAccessible(true);
                if (!f.getType().isPrimitive()) {
                    walk(f.get(o));
                }
            }
        }
    }

    /** Each call of the face, at least once; the round itself makes nothing either. */
    private static long round(EmptyHat hat) {
        tape(hat, CROWN);
        long sum = hat.crown() + hat.fault(0);
        for (int i = 0; i < 4; i++) {
            sum += hat.has(i) + hat.letter(i, i, i) + hat.province(i, i) + hat.trick(i, 5) + hat.watcher(i, 2);
            sum += hat.sight(i, i) + hat.best(i) + hat.appears(i) + hat.later(20 * i, i) + hat.both(i) + hat.drop(i);
            sum += hat.shows(i) + hat.where(i) + hat.watch(i) + hat.seat(i) + hat.status(i) + hat.kept(i, i);
        }
        tape(hat, ROW);
        sum += hat.count() + hat.shows(0) + hat.where(0) + hat.curtain() + hat.show(3);
        sum += hat.sit(0, 5) ? 1 : 0;
        sum += hat.move(0, 1, 1) ? 1 : 0;
        sum += hat.seed(9) ? 1 : 0;
        sum += hat.years(9) + hat.chance(9) + hat.image();
        sum += hat.undo() ? 1 : 0;
        tape(hat, QUESTION);
        sum += hat.ask();
        for (int k = 0; k < IMAGE.length; k++) {
            IMAGE[k] = (byte) hat.octet(k);
        }
        tape(hat, IMAGE);
        return sum + (hat.on() ? 1 : 0);
    }

    private static void tape(EmptyHat hat, byte[] bytes) {
        hat.end(0);
        for (int at = 0; at < bytes.length; at += 20) {
            hat.feed(four(bytes, at), four(bytes, at + 4), four(bytes, at + 8), four(bytes, at + 12),
                four(bytes, at + 16));
        }
        hat.end(bytes.length);
    }

    private static int four(byte[] bytes, int at) {
        int number = 0;
        for (int i = at; i < at + 4; i++) {
            number = number << 8 | (i < bytes.length ? bytes[i] & 255 : ' ');
        }
        return number;
    }
}
