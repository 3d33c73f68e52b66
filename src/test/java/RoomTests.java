import com.sun.management.ThreadMXBean;
import java.lang.management.ManagementFactory;

/**
 * All calls of one run live in one room: some 7.3 million fields and elements. What the dearest runs
 * of 512 calls make is counted in bytes; a field or an element is four on the whole.
 */
public final class RoomTests {
    private static final long ROOM = 4 * 7300000;
    private static final Checks CHECKS = new Checks();
    private static final ThreadMXBean THREADS =
            (ThreadMXBean) ManagementFactory.getThreadMXBean();

    public static void main(String[] args) {
        search(town(2, 2), 10);
        made("512 new objects", () -> newObjects(512));
        made("towns, each larger", () -> largerTowns());
        made("searches in the largest town", () -> search(town(6, 4), 60));
        made("calls that do not search", () -> noSearch());
        CHECKS.close();
    }

    private static void made(String what, Runnable run) {
        long before = THREADS.getThreadAllocatedBytes(Thread.currentThread().getId());
        run.run();
        long made = THREADS.getThreadAllocatedBytes(Thread.currentThread().getId()) - before;
        System.out.println(what + " make " + made + " bytes");
        CHECKS.due(what + " make so little", made < ROOM, true);
    }

    private static String town(int houses, int rails) {
        String text = "";
        for (int i = 0; i < rails; i++) {
            text += "rail " + (char) ('a' + i) + " length 60;";
        }
        for (int i = 0; i < houses; i++) {
            text += "house " + (char) ('a' + i) + " length 1 weight 9 on a;";
        }
        return text;
    }

    private static void newObjects(int calls) {
        for (int i = 0; i < calls; i++) {
            new RailHouses();
        }
    }

    private static void search(String text, int calls) {
        RailHouses x = Checks.told(text);
        for (int i = 0; i < calls; i++) {
            x.goal(x.about(0) - 1 - i);
            x.fewest();
            x.least();
            x.richest(30);
            x.free(0);
            x.spare(3, 1);
        }
    }

    private static void largerTowns() {
        RailHouses x = new RailHouses();
        for (int houses = 1; houses <= 6; houses++) {
            for (int rails = 1; rails <= 4; rails++) {
                Checks.feed(x, town(houses, rails));
                x.town();
                x.goal(houses - 1);
                x.fewest();
                x.least();
            }
        }
    }

    private static void noSearch() {
        RailHouses x = Checks.told(town(8, 5) + "law many + 1 > takes a;");
        for (int i = 0; i < 100; i++) {
            x.pull(i % 2, 1, 1 - i % 2);
            x.image(i % 3);
            x.sight(i % 4, i % 8, i % 5, false);
            x.fits(i % 4, i);
            x.can(i % 8, i % 4, i);
            x.judge(2);
        }
    }
}
