import com.sun.management.ThreadMXBean;
import java.lang.management.ManagementFactory;
import java.lang.reflect.Array;
import java.lang.reflect.Field;
import java.lang.reflect.Modifier;
import java.util.ArrayDeque;
import java.util.Collections;
import java.util.Deque;
import java.util.IdentityHashMap;
import java.util.Set;

/** What an object takes of the one room in which all calls of a run live, and that no call takes more of it. */
public final class CubeLegsRoom {
    private static final int CALLS_OF_A_RUN = 512;
    /** A thousandth of the room for each object: a run may make many of them. */
    private static final int MOST_OBJECTS = 600;
    private static final int MOST_ELEMENTS = 7300;
    /** Calls that are looked at are few, so that they are not yet compiled with their objects left out. */
    private static final int TIMES = 40;
    /** Below one object (16 bytes) a call, above the little that the machine itself may take. */
    private static final int MOST_BYTES = 12 * TIMES;
    private static final ThreadMXBean THREADS = (ThreadMXBean) ManagementFactory.getThreadMXBean();

    private static final String[] CALLS = {"sides", "parcel", "sets", "rules", "empties", "fills", "of", "step", "load",
        "loads", "expected", "part", "greatest", "chooses", "run", "ran", "best", "straight", "type", "clear", "reads",
        "back", "told", "digest", "refused"};
    private static int wrong = 0;

    private static void check(boolean good, String what) {
        if (!good) {
            wrong++;
            System.out.println(what);
        }
    }

    private static long call(CubeLegs x, int which) {
        switch (which) {
            case 0: return x.sides(4);
            case 1: return x.parcel(0, 15, 15, 99);
            case 2: return x.sets(0, 2, 15);
            case 3: return x.rules(1, 3);
            case 4: return x.empties();
            case 5: return x.fills(3, 999999);
            case 6: return x.of(15, 5);
            case 7: return x.step(0, 8);
            case 8: return x.load(15, 3);
            case 9: return x.loads(3);
            case 10: return x.expected(15, 3, 8);
            case 11: return x.part(0);
            case 12: return x.greatest();
            case 13: return x.chooses();
            case 14: return x.run(4);
            case 15: return x.ran(15, 2, 400);
            case 16: return x.best(1);
            case 17: return x.straight();
            case 18: return x.type(' ');
            case 19: return x.clear();
            case 20: return x.reads();
            case 21: return x.back();
            case 22: return x.told(8);
            case 23: return x.digest();
            default: return x.sides(0) + x.parcel(-1, 0, 0, 0) + x.of(99, 0) + x.ran(0, 2, 401);
        }
    }

    private static CubeLegs full() {
        CubeLegs x = new CubeLegs();
        x.sides(4);
        x.fills(0, 7);
        for (char c : "0>1/2*3;".repeat(15).toCharArray()) {
            x.type(c);
        }
        return x;
    }

    private static void checkCallsTakeNothing() {
        long sum = 0;
        for (int which = 0; which < CALLS.length; which++) {
            CubeLegs x = full();
            sum += call(x, which) + THREADS.getCurrentThreadAllocatedBytes();
            long before = THREADS.getCurrentThreadAllocatedBytes();
            for (int i = 0; i < TIMES; i++) {
                sum += call(x, which);
            }
            long taken = THREADS.getCurrentThreadAllocatedBytes() - before;
            check(taken <= MOST_BYTES, "rule 12: " + TIMES + " calls of " + CALLS[which] + " took " + taken + " bytes");
        }
        check(sum != 0, "no call answered");
    }

    /** Objects and arrays that x holds, x with them, and their fields and elements. */
    private static int[] held(CubeLegs x) throws IllegalAccessException {
        Set<Object> seen = Collections.newSetFromMap(new IdentityHashMap<>());
        Deque<Object> open = new ArrayDeque<>();
        open.add(x);
        int elements = 0;
        while (!open.isEmpty()) {
            Object o = open.remove();
            if (!seen.add(o)) {
                continue;
            }
            if (o.getClass().isArray()) {
                elements += Array.getLength(o);
                for (int i = 0; !o.getClass().getComponentType().isPrimitive() && i < Array.getLength(o); i++) {
                    open.add(Array.get(o, i));
                }
                continue;
            }
            for (Field f : o.getClass().getDeclaredFields()) {
                if (!Modifier.isStatic(f.getModifiers())) {
                    elements++;
                    f.setAccessible(true);
                    if (!f.getType().isPrimitive()) {
                        open.add(f.get(o));
                    }
                }
            }
        }
        return new int[] {seen.size(), elements};
    }

    private static void checkObjectsAreSmall() throws IllegalAccessException {
        CubeLegs x = new CubeLegs();
        int[] first = held(x);
        check(first[0] <= MOST_OBJECTS, "a new object is " + first[0] + " objects");
        check(first[1] <= MOST_ELEMENTS, "a new object has " + first[1] + " elements");
        x.sides(4);
        for (int i = 1; i < CALLS_OF_A_RUN; i++) {
            call(x, i % 23 + 1);
        }
        int[] last = held(x);
        check(first[0] == last[0] && first[1] == last[1], "an object grew from " + first[0] + " objects with " + first[1]
            + " elements to " + last[0] + " with " + last[1]);
    }

    public static void main(String[] args) throws IllegalAccessException {
        checkObjectsAreSmall();
        if (THREADS.isThreadAllocatedMemorySupported() && THREADS.isThreadAllocatedMemoryEnabled()) {
            checkCallsTakeNothing();
        } else {
            System.out.println("this machine does not tell what calls take");
        }
        System.out.println(wrong == 0 ? "the room is enough" : wrong + " take too much room");
        if (wrong != 0) {
            System.exit(1);
        }
    }
}
