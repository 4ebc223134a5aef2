import java.lang.management.ManagementFactory;
import java.lang.reflect.Array;
import java.lang.reflect.Field;
import java.lang.reflect.Modifier;
import java.util.ArrayList;
import java.util.IdentityHashMap;
import java.util.List;
import java.util.Map;

/** How much room an object takes: its rows are made with it, and no call but an image makes more. */
public final class RoomTest {
    private static final String LAW = "tire 0 head/9 if stool<9;age 0 heat-5 if box>2;weak 0 900;dark not light>50;refund strips<2;rent box*2";
    private static final com.sun.management.ThreadMXBean THREADS =
        (com.sun.management.ThreadMXBean) ManagementFactory.getThreadMXBean();

    private final Counted x = new Counted();
    private long objects = 0;
    private long elements = 0;

    public static void main(String[] args) throws IllegalAccessException {
        RoomTest fresh = new RoomTest();
        fresh.measure();
        Check.due("objects of a new one: " + fresh.objects, fresh.objects <= 200, true);
        Check.due("elements of a new one: " + fresh.elements, fresh.elements <= 21000, true);

        // Once unmeasured, so that all is loaded.
        new RoomTest().live(false);
        RoomTest plain = new RoomTest();
        long bytes = plain.live(false);
        plain.measure();
        Check.due("bytes that calls make: " + bytes, bytes < 4096, true);
        Check.due("objects kept by calls", plain.objects <= fresh.objects, true);
        Check.due("elements kept by calls", plain.elements <= fresh.elements, true);

        RoomTest imaged = new RoomTest();
        imaged.live(true);
        imaged.measure();
        Check.due("objects with four images: " + imaged.objects, imaged.objects <= 400, true);
        Check.due("elements with four images: " + imaged.elements, imaged.elements <= 50000, true);
        Check.end();
    }

    /** All calls that an object is used for: how many bytes were made. */
    private long live(boolean images) {
        long before = THREADS.getCurrentThreadAllocatedBytes();
        begin();
        // One of the calls below asks for a count first.
        for (int i = 0; x.left() >= 2; i++) {
            call(i % 29, i, images);
        }
        return THREADS.getCurrentThreadAllocatedBytes() - before;
    }

    private void begin() {
        for (int i = 0; i < 6; i++) {
            x.place(20 * i % 100);
        }
        Check.due("LAW", Check.law(x, LAW), 0);
        for (int i = 0; i < 4; i++) {
            x.booth(i, 2, 0);
            x.paper(i, 60);
        }
    }

    private void call(int kind, int i, boolean images) {
        int n = i % 4;
        switch (kind) {
            case 0: x.miles(n, n + 1, i % 100); break;
            case 1: x.heat(i % 400, n); break;
            case 2: x.move(n, 4 + n % 2); break;
            case 3: x.clock(x.count(0) + 9); break;
            case 4: x.change(n, 0); break;
            case 5: x.empty(n); break;
            case 6: x.of(n, n); break;
            case 7: x.spoilt(-1, n); break;
            case 8: x.again(n, 0, 1); break;
            case 9: x.with(n, 0, i / 9); break;
            case 10: x.finest(n, 0); break;
            case 11: x.reading(n, n, 5, 5); break;
            case 12: x.agree(n, 9, 0); break;
            case 13: x.claim(n, n, 0); break;
            case 14: x.fair(0, 1); break;
            case 15: x.suspect(n); break;
            case 16: x.refused(0, -1); break;
            case 17: x.newer(0, 0); break;
            case 18: x.rent(0, n, 0, 9); break;
            case 19: x.cheapest(n, 0, 9); break;
            case 20: x.round(15, n, -1); break;
            case 21: x.call(n, i); break;
            case 22: x.worthy(n, 1, 0); break;
            case 23: x.takes(n, 5, n, i); break;
            case 24: x.placed(true, n, -1); break;
            case 25: if (images) { x.image(n); } break;
            case 26: if (images) { x.back(n); } break;
            default: x.strip(n, 40, 5); break;
        }
    }

    /** Counts all that can be reached from the object: fields and elements, and what they stand in. */
    private void measure() throws IllegalAccessException {
        Map<Object, Object> seen = new IdentityHashMap<>();
        List<Object> left = new ArrayList<>();
        left.add(x);
        while (!left.isEmpty()) {
            Object one = left.remove(left.size() - 1);
            if (one != null && seen.put(one, one) == null) {
                objects++;
                if (one.getClass().isArray()) {
                    array(one, left);
                } else {
                    fields(one, left);
                }
            }
        }
    }

    private void array(Object one, List<Object> left) {
        int n = Array.getLength(one);
        elements += n;
        for (int i = 0; i < n && !one.getClass().getComponentType().isPrimitive(); i++) {
            left.add(Array.get(one, i));
        }
    }

    private void fields(Object one, List<Object> left) throws IllegalAccessException {
        for (Field field : one.getClass().getDeclaredFields()) {
            if (Modifier.isStatic(field.getModifiers())) {
                continue;
            }
            elements++;
            if (!field.getType().isPrimitive()) {
                field.setAccessible(true);
                left.add(field.get(one));
            }
        }
    }
}
