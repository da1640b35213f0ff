import java.lang.management.ManagementFactory;
import java.lang.reflect.Array;
import java.lang.reflect.Field;
import java.lang.reflect.Modifier;
import java.util.ArrayDeque;
import java.util.IdentityHashMap;

/**
 * All calls of one run live in one room: what an object holds is counted, and what its calls make, of the
 * dearest run of 512 calls that can be thought of, and of each question by itself.
 */
public final class Room {
    private static final int CALLS = 512;
    private static final int MOST_HELD_ELEMENTS = 100_000;
    private static final int MOST_HELD_OBJECTS = 400;
    /** Elements are at least a byte each, so this is far below the 7.3 million of the room. */
    private static final long MOST_MADE_BYTES = 3_000_000;

    private static int wrong = 0;

    private static void atMost(String what, long is, long most) {
        if (is > most) {
            wrong++;
            System.out.println(what + ": " + is + ", at most " + most + " are due");
        }
    }

    private static void checkHeld() throws IllegalAccessException {
        IdentityHashMap<Object, Boolean> seen = new IdentityHashMap<>();
        ArrayDeque<Object> left = new ArrayDeque<>();
        InkFolds inks = new InkFolds();
        left.add(inks);
        seen.put(inks, true);
        long elements = 0;
        while (!left.isEmpty()) {
            Object o = left.poll();
            if (o.getClass().isArray()) {
                int n = Array.getLength(o);
                elements += n;
                for (int i = 0; i < n && !o.getClass().getComponentType().isPrimitive(); i++) {
                    note(Array.get(o, i), seen, left);
                }
                continue;
            }
            for (Field f : o.getClass().getDeclaredFields()) {
                if (!Modifier.isStatic(f.getModifiers())) {
                    elements++;
                    f.setAccessible(true);
                    if (!f.getType().isPrimitive()) {
                        note(f.get(o), seen, left);
                    }
                }
            }
        }
        atMost("elements of a new object", elements, MOST_HELD_ELEMENTS);
        atMost("objects of a new object", seen.size(), MOST_HELD_OBJECTS);
    }

    private static void note(Object o, IdentityHashMap<Object, Boolean> seen, ArrayDeque<Object> left) {
        if (o != null && seen.put(o, true) == null) {
            left.add(o);
        }
    }

    private static void send(InkFolds inks, String text) {
        inks.end(0);
        for (int at = 0; at < text.length(); at += 4) {
            int v = 0;
            for (int i = 0; i < 4; i++) {
                v = v << 8 | (at + i < text.length() ? text.charAt(at + i) : 0);
            }
            inks.sign(v);
        }
        inks.end(text.length());
    }

    private static final int KINDS = 35;

    private static void call(InkFolds inks, int kind, int n) {
        switch (kind) {
            case 0: inks.colour(n); break;
            case 1: inks.limited(8888, 20); break;
            case 2: inks.match(n % 400, 200, 100); break;
            case 3: inks.fold(400, n % 400, 0); break;
            case 4: inks.prints(400, n % 400, 0); break;
            case 5: inks.ramp(0, 8888); break;
            case 6: inks.way(0, 8888, 1000000); break;
            case 7: inks.rises(n % 4); break;
            case 8: inks.reach(n % 3); break;
            case 9: inks.spread(); break;
            case 10: inks.odds(1, 2, 3, n); break;
            case 11: inks.through(1234); break;
            case 12: inks.sources(4400); break;
            case 13: inks.rounds(1234); break;
            case 14: inks.press(n % 2); break;
            case 15: inks.cell(n % 2, n % 4); break;
            case 16: inks.slips(n % 4, 1, 1); break;
            case 17: inks.greys(n % 9, 100); break;
            case 18: inks.replaces(n % 3, 4444, 5000); break;
            case 19: inks.doubt(); break;
            case 20: inks.asks(); break;
            case 21: inks.other(0); break;
            case 22: inks.carry(0, 4321); break;
            case 23: inks.drifts(n, 40); break;
            case 24: inks.keep(n % 2); break;
            case 25: inks.again(n % 2); break;
            case 26: inks.measure(n % 81, n % 100, 50, 50); break;
            case 27: inks.forgets(n % 81); break;
            case 28: inks.sets(2, n); break;
            case 29: inks.paints(n % 8, n % 400, 0, 0); break;
            case 30: inks.undo(); break;
            case 31: inks.sheet(2, 27, n, 1); break;
            case 32: send(inks, "g0g1l08w15t3ea010203m1111505050"); inks.day(); break;
            case 33: send(inks, "abab/cdcd"); inks.picture(); break;
            default: send(inks, "001122348"); inks.curve(n % 4); break;
        }
    }

    private static long made(InkFolds inks, int kind) {
        com.sun.management.ThreadMXBean threads =
                (com.sun.management.ThreadMXBean) ManagementFactory.getThreadMXBean();
        long self = Thread.currentThread().getId();
        long before = threads.getThreadAllocatedBytes(self);
        for (int n = 0; n < 12; n++) {
            call(inks, kind, n * 37);
        }
        return threads.getThreadAllocatedBytes(self) - before;
    }

    /** Calls that make nothing are told from others by twelve in a row; a few bytes are the measuring's own. */
    private static void checkQuestions() {
        for (int kind = 0; kind < KINDS; kind++) {
            InkFolds inks = new InkFolds();
            send(inks, "acb/dab");
            inks.picture();
            send(inks, "n2(ac1)om(sm1)l");
            inks.link();
            inks.keep(0);
            inks.measure(40, 1, 2, 3);
            made(inks, kind);
            atMost("bytes made by twelve calls of kind " + kind, made(inks, kind), 1000);
        }
    }

    /** Nothing but link() makes objects: as many as can be, each with as many STEPS as can be. */
    private static void checkLinks() {
        com.sun.management.ThreadMXBean threads =
                (com.sun.management.ThreadMXBean) ManagementFactory.getThreadMXBean();
        long self = Thread.currentThread().getId();
        InkFolds inks = new InkFolds();
        long before = threads.getThreadAllocatedBytes(self);
        for (int n = 0; n < CALLS; n++) {
            send(inks, "l".repeat(40));
            inks.link();
        }
        atMost("bytes made by the dearest run", threads.getThreadAllocatedBytes(self) - before, MOST_MADE_BYTES);
    }

    public static void main(String[] args) throws IllegalAccessException {
        checkHeld();
        checkQuestions();
        checkLinks();
        System.out.println(wrong == 0 ? "the room is wide enough" : wrong + " counts are too great");
        if (wrong != 0) {
            System.exit(1);
        }
    }
}
