import java.lang.management.ManagementFactory;
import java.lang.reflect.Array;
import java.lang.reflect.Field;
import java.lang.reflect.Modifier;
import java.util.Collections;
import java.util.IdentityHashMap;
import java.util.Set;
import java.util.function.IntConsumer;

/**
 * LANGUAGE.md's rule 12: what a run makes is small. An object has few objects and elements once it is made, and of the
 * dearest calls 512 on one object make next to nothing more.
 */
public final class RoomTest {
    private static final int CALLS = 512, MOST_OBJECTS = 100, MOST_ELEMENTS = 2000, MOST_BYTES_OF_A_CALL = 128;

    private static final com.sun.management.ThreadMXBean THREADS = (com.sun.management.ThreadMXBean) ManagementFactory.getThreadMXBean();
    private static final Set<Object> SEEN = Collections.newSetFromMap(new IdentityHashMap<>());
    private static long elements = 0;
    private static int wrong = 0;

    public static void main(String[] args) throws Exception {
        TableFirms x = new TableFirms();
        count(x);
        check(SEEN.size() <= MOST_OBJECTS, "an object is made of " + SEEN.size() + " objects and arrays");
        check(elements <= MOST_ELEMENTS, "an object has " + elements + " fields and elements");
        tell(x, "t12,4;c0,0;r0,1;o0,12;p0,3;b1,9;c1,8;r1,12;o1,11;");
        x.row(0, 0, 40);
        call("feed, table", n -> tell(x, n % 2 == 0 ? "t12,4;c0,0;r0,1;o0,12;p0,3;b1,9;c1,8;r1,12;o1,11;" : "t12,4;c0,13;"));
        call("row, set, copy, drop", n -> {
            x.row(1, n % 3, 40);
            x.set(1, n % 40, n);
            x.copy(1, 0, 1, 1, 39);
            x.drop(1);
        });
        call("play, lay, twice, undo", n -> {
            x.play(1 + n % 6);
            x.lay(n % 8, n % 13);
            x.twice();
            x.undo();
        });
        call("move", n -> x.move(n % 8, 1 + n % 6));
        call("best", n -> x.best(1 + n % 6, n % 16 == 0 ? 2 : 1, 0));
        call("race, chance, drawn", n -> {
            x.race(n % 2);
            x.chance(n % 2, 3, 0);
            x.drawn(60, 1 + n, 0);
        });
        call("cast, played, kinds", n -> {
            x.cast(0, 0);
            x.played(1 + n % 6, 0, 0);
            x.kinds(n % 8, 1 + n % 6, 0, 0);
        });
        call("may, whither, shots, enter, safe", n -> {
            x.may(1 + n % 6);
            x.whither(n % 8, 1 + n % 6);
            x.shots(n % 8);
            x.enter(n % 2);
            x.safe(n % 2);
        });
        call("image, restore", n -> {
            x.image(n % 2);
            x.restore(n % 2);
        });
        call("as, ask, trace", n -> {
            x.as(n % 8, n % 6);
            x.ask(n % 8, n % 2);
            x.trace(n % 16);
        });
        System.out.println(wrong == 0 ? "an object is " + SEEN.size() + " objects, " + elements + " elements; calls make little more"
            : wrong + " things take too much room");
        if (wrong != 0) {
            System.exit(1);
        }
    }

    private static void tell(TableFirms x, String text) {
        for (int i = 0; i < text.length(); i++) {
            x.feed(text.charAt(i));
        }
        x.table();
    }

    private static void call(String what, IntConsumer calls) {
        calls.accept(0);
        long before = THREADS.getCurrentThreadAllocatedBytes();
        for (int n = 0; n < CALLS; n++) {
            calls.accept(n);
        }
        long made = THREADS.getCurrentThreadAllocatedBytes() - before;
        check(made <= (long) CALLS * MOST_BYTES_OF_A_CALL, what + ": " + CALLS + " rounds make " + made + " bytes");
    }

    private static void count(Object one) throws Exception {
        if (one == null || !SEEN.add(one)) {
            return;
        }
        Class<?> type = one.getClass();
        if (type.isArray()) {
            elements += Array.getLength(one);
            for (int i = 0; i < Array.getLength(one) && !type.getComponentType().isPrimitive(); i++) {
                count(Array.get(one, i));
            }
            return;
        }
        for (Field field : type.getDeclaredFields()) {
            if (!Modifier.isStatic(field.getModifiers())) {
                elements++;
                field.setAccessible(true);
                if (!field.getType().isPrimitive()) {
                    count(field.get(one));
                }
            }
        }
    }

    private static void check(boolean holds, String what) {
        if (!holds) {
            wrong++;
            System.out.println(what);
        }
    }
}
