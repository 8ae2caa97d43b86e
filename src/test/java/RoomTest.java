import java.lang.management.ManagementFactory;
import java.lang.reflect.Array;
import java.lang.reflect.Field;
import java.lang.reflect.Modifier;
import java.util.ArrayList;
import java.util.IdentityHashMap;
import java.util.List;
import java.util.Map;

/** The room that a run takes: an object and what its 512 calls make must go into the one room of LANGUAGE.md, rule 12. */
public final class RoomTest {
    private static final int CALLS = 512;
    private static final int MOST_OBJECTS = 600000;
    private static final int MOST_FIELDS = 7300000;
    private static final int LEAST_BYTES_OF_A_FIELD = 4;
    private static int wrong = 0;
    private static long taken = 0;

    private interface Call {
        long of(CarbonMinistry x, int k);
    }

    private RoomTest() {
    }

    public static void main(String[] args) {
        String text = largest();
        Call[] calls = {(x, k) -> x.turning(k % 8, k % 4, 99, 20), (x, k) -> x.days(1 + k % 7), (x, k) -> x.tells(k % 4, 2),
            (x, k) -> x.chance(1), (x, k) -> x.acted(60), (x, k) -> bit(x.put(k % 8, k % 4, k % 100)), (x, k) -> x.settles(),
            (x, k) -> x.image(), (x, k) -> bit(x.turn(k % 12, 1)), (x, k) -> x.sources(1, k), (x, k) -> bit(x.undo()),
            (x, k) -> x.cutting(k % 8, 1), (x, k) -> bit(x.pull(k % 12, 0)), (x, k) -> x.later(3, 2, 60),
            (x, k) -> x.strongest(1, 60), (x, k) -> x.steps(0, 5), (x, k) -> x.kept(k % 40, 3), (x, k) -> x.officer(2, 2),
            (x, k) -> x.passes(k % 12, 1), (x, k) -> x.feed(0x66697273, 0x7420616c, 0x6c202020, 0x20202020, 0x20202020),
            (x, k) -> x.ask(), (x, k) -> x.feed(0x01020300, 0, 0, 0, 0), (x, k) -> bit(x.end(3)), (x, k) -> x.discover(),
            (x, k) -> x.feed(k, k, k, k, k), (x, k) -> bit(x.on()), (x, k) -> x.letter(0, 1, 0), (x, k) -> x.carbon(1, 1),
            (x, k) -> x.feels(1, 1), (x, k) -> x.octet(3), (x, k) -> x.status(1), (x, k) -> x.fault(1),
            (x, k) -> bit(x.seed(k)), (x, k) -> x.feed(0x736c6970, 0x20313031, 0x3b202020, 0x20202020, 0x20202020),
            (x, k) -> x.ministry(), (x, k) -> x.has(6), (x, k) -> x.days(101)};
        for (int k = 0; k < 40; k++) {
            grows(text, calls, false);
        }
        grows(text, calls, true);
        int[] size = size(new CarbonMinistry());
        System.out.println("an object is made of " + size[0] + " objects and arrays, " + size[1] + " fields and elements; "
            + "512 calls make objects of " + taken + " bytes; " + wrong + " wrong");
        if (wrong != 0) {
            System.exit(1);
        }
    }

    private static long bit(boolean is) {
        return is ? 1 : 0;
    }

    private static String largest() {
        StringBuilder b = new StringBuilder();
        for (int k = 0; k < 8; k++) {
            b.append("officer ").append((char) ('a' + k)).append(" shape 1 press 1;");
        }
        b.append("feeling w;feeling x;feeling y;feeling z;");
        for (int k = 0; k < 12; k++) {
            b.append("carbon ").append((char) ('a' + k % 8)).append(" to ").append((char) ('a' + (k + 1 + k / 8) % 8))
                .append(" sheets 1;");
        }
        return b + "felt x of a is 99;felt w of c is 70;passes strength-day/99;fades feel*2/3;acts all;slip 50;";
    }

    /** Makes an object, reads the text and makes the calls; if it is to be looked at, what that takes. */
    private static void grows(String text, Call[] calls, boolean looked) {
        CarbonMinistry x = new CarbonMinistry();
        int[] before = size(x);
        Desk.put(x, text);
        long sum = x.ministry();
        int made = (text.length() + 19) / 20 + 3;
        long start = allocated();
        long idle = allocated() - start;
        start = allocated();
        for (int k = made; k < CALLS; k++) {
            sum += calls[k % calls.length].of(x, k);
        }
        taken = allocated() - start - idle;
        int[] behind = size(x);
        if (!looked) {
            return;
        }
        check(sum != 0, "the calls answer");
        check(behind[0] <= MOST_OBJECTS, "objects: " + behind[0]);
        check(behind[1] <= MOST_FIELDS, "fields and elements: " + behind[1]);
        long room = (long) MOST_FIELDS * LEAST_BYTES_OF_A_FIELD;
        check(taken + (long) before[1] * LEAST_BYTES_OF_A_FIELD <= room, "512 calls make objects of " + taken + " bytes");
    }

    /** What this thread has made so far, in bytes; 0 on a machine that does not count it. */
    private static long allocated() {
        if (ManagementFactory.getThreadMXBean() instanceof com.sun.management.ThreadMXBean threads
            && threads.isThreadAllocatedMemorySupported()) {
            return threads.getThreadAllocatedBytes(Thread.currentThread().getId());
        }
        return 0;
    }

    private static void check(boolean holds, String what) {
        if (!holds) {
            wrong++;
            System.out.println("not so: " + what);
        }
    }

    /** How many objects and arrays an object is made of, and how many fields and elements these have. */
    private static int[] size(Object whole) {
        Map<Object, Boolean> seen = new IdentityHashMap<>();
        List<Object> open = new ArrayList<>();
        open.add(whole);
        seen.put(whole, true);
        int[] size = new int[2];
        while (!open.isEmpty()) {
            Object one = open.remove(open.size() - 1);
            size[0]++;
            for (Object part : parts(one, size)) {
                if (part != null && seen.put(part, true) == null) {
                    open.add(part);
                }
            }
        }
        return size;
    }

    private static List<Object> parts(Object one, int[] size) {
        List<Object> parts = new ArrayList<>();
        if (one.getClass().isArray()) {
            size[1] += Array.getLength(one);
            for (int k = 0; !one.getClass().getComponentType().isPrimitive() && k < Array.getLength(one); k++) {
                parts.add(Array.get(one, k));
            }
            return parts;
        }
        for (Field f : one.getClass().getDeclaredFields()) {
            if (Modifier.isStatic(f.getModifiers())) {
                continue;
            }
            size[1]++;
            if (!f.getType().isPrimitive()) {
                parts.add(valueOf(f, one));
            }
        }
        return parts;
    }

    private static Object valueOf(Field f, Object one) {
        try {
            f.setAccessible(true);
            return f.get(one);
        } catch (IllegalAccessException e) {
            throw new IllegalStateException(e);
        }
    }
}
