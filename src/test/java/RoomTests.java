import com.sun.management.ThreadMXBean;
import java.lang.management.ManagementFactory;
import java.lang.reflect.Array;
import java.lang.reflect.Field;
import java.lang.reflect.Modifier;
import java.util.ArrayDeque;
import java.util.Collections;
import java.util.IdentityHashMap;
import java.util.Set;

/**
 * All calls of one run live in one room: some 600,000 objects and arrays, 7.3 million fields and
 * elements. What the dearest runs of 512 calls make is counted in bytes, a field or an element being
 * four on the whole; what an object holds, in fields and elements.
 */
public final class RoomTests {
    private static final long MOST_OBJECTS = 600000;
    private static final long MOST_ELEMENTS = 7300000;
    private static final long ROOM = 4 * MOST_ELEMENTS;
    private static final Checks CHECKS = new Checks();
    private static final ThreadMXBean THREADS =
            (ThreadMXBean) ManagementFactory.getThreadMXBean();

    public static void main(String[] args) throws IllegalAccessException {
        held("new objects", new RailHouses(), 512);
        // with the feeds for its text, an object that searches in the largest town takes 17 calls
        held("objects that searched in the largest town", search(town(6, 4), 1), 512 / 17);
        made("512 new objects", () -> newObjects(512));
        made("towns, each larger", () -> largerTowns());
        made("searches in the largest town", () -> search(town(6, 4), 60));
        made("calls that do not search", () -> noSearch());
        CHECKS.close();
    }

    private static void made(String what, Runnable run) {
        long before = THREADS.getThreadAllocatedBytes(Thread.currentThread().getId());
        run.run();
        long made = THREADS.getThreadAllocatedBytes(Thread.currentThread().getId()) - before;
        System.out.println(what + " make " + made + " bytes");
        CHECKS.due(what + " make so little", made < ROOM, true);
    }

    private static void held(String what, RailHouses x, int times) throws IllegalAccessException {
        Set<Object> seen = Collections.newSetFromMap(new IdentityHashMap<>());
        ArrayDeque<Object> next = new ArrayDeque<>();
        next.add(x);
        long elements = 0;
        while (!next.isEmpty()) {
            Object one = next.poll();
            if (seen.add(one)) {
                elements += one.getClass().isArray() ? elements(one, next) : fields(one, next);
            }
        }
        System.out.println(times + " " + what + " hold " + seen.size() * times + " objects, "
                + elements * times + " fields and elements");
        CHECKS.due(what + ": so few objects", (long) seen.size() * times < MOST_OBJECTS, true);
        CHECKS.due(what + ": so few elements", elements * times < MOST_ELEMENTS, true);
    }

    private static int elements(Object array, ArrayDeque<Object> next) {
        if (array instanceof Object[] objects) {
            for (Object one : objects) {
                next.add(one);
            }
        }
        return Array.getLength(array);
    }

    private static int fields(Object one, ArrayDeque<Object> next) throws IllegalAccessException {
        int fields = 0;
        for (Field field : one.getClass().getDeclaredFields()) {
            if (!Modifier.isStatic(field.getModifiers())) {
                fields++;
                field.setAccessible(true);
                if (!field.getType().isPrimitive() && field.get(one) != null) {
                    next.add(field.get(one));
                }
            }
        }
        return fields;
    }

    private static String town(int houses, int rails) {
        String text = "";
        for (int i = 0; i < rails; i++) {
            text += "rail " + (char) ('a' + i) + " length 60;";
        }
        for (int i = 0; i < houses; i++) {
            text += "house " + (char) ('a' + i) + " length 1 weight 9 on a;";
        }
        return text;
    }

    private static void newObjects(int calls) {
        for (int i = 0; i < calls; i++) {
            new RailHouses();
        }
    }

    private static RailHouses search(String text, int calls) {
        RailHouses x = Checks.told(text);
        for (int i = 0; i < calls; i++) {
            x.goal(x.about(0) - 1 - i);
            x.fewest();
            x.least();
            x.richest(30);
            x.free(0);
            x.spare(3, 1);
        }
        return x;
    }

    private static void largerTowns() {
        RailHouses x = new RailHouses();
        for (int houses = 1; houses <= 6; houses++) {
            for (int rails = 1; rails <= 4; rails++) {
                Checks.feed(x, town(houses, rails));
                x.town();
                x.goal(houses - 1);
                x.fewest();
                x.least();
            }
        }
    }

    private static void noSearch() {
        RailHouses x = Checks.told(town(8, 5) + "law many + 1 > takes a;");
        for (int i = 0; i < 100; i++) {
            x.pull(i % 2, 1, 1 - i % 2);
            x.image(i % 3);
            x.sight(i % 4, i % 8, i % 5, false);
            x.fits(i % 4, i);
            x.can(i % 8, i % 4, i);
            x.judge(2);
        }
    }
}
