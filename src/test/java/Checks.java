import java.nio.charset.StandardCharsets;

/** What the tests share: answers that are due, and towns told as texts. */
final class Checks {
    private int passed;
    private int failed;
    private String part = "";

    void part(String name) {
        part = name;
    }

    void due(String call, long got, long want) {
        if (got == want) {
            passed++;
            return;
        }
        failed++;
        System.out.println(part + ": " + call + " answered " + got + ", due is " + want);
    }

    void due(String call, boolean got, boolean want) {
        due(call, got ? 1 : 0, want ? 1 : 0);
    }

    /** The row that lies there, as "from many to" codes. */
    void dueRow(RailHouses x, int... codes) {
        due("about(10)", x.about(10), codes.length);
        for (int i = 0; i < codes.length; i++) {
            due("lies(" + i + ")", x.lies(i), codes[i]);
        }
        due("lies behind the row", x.lies(codes.length), -1);
    }

    /** The houses of a rail, all of them. */
    void dueRail(RailHouses x, int rail, int... houses) {
        for (int i = 0; i < houses.length; i++) {
            due("on(" + rail + ", " + i + ")", x.on(rail, i), houses[i]);
            due("where(" + houses[i] + ", 0)", x.where(houses[i], 0), rail);
            due("where(" + houses[i] + ", 1)", x.where(houses[i], 1), i);
        }
        due("on(" + rail + ") behind the row", x.on(rail, houses.length), -1);
    }

    /** A text with a fault; its place is where the ^ stands, which is no part of the text. */
    void dueFault(int kind, String marked) {
        RailHouses x = new RailHouses();
        feed(x, marked.replace("^", ""));
        due("town() of " + marked, x.town(), -1);
        due("fault(0) of " + marked, x.fault(0), kind);
        due("fault(1) of " + marked, x.fault(1), marked.indexOf('^'));
        due("about(7) of " + marked, x.about(7), 0);
    }

    void dueTown(int houses, String text) {
        RailHouses x = new RailHouses();
        feed(x, text);
        due("town() of " + text, x.town(), houses);
        due("fault(0) of " + text, x.fault(0), 0);
        due("fault(1) of " + text, x.fault(1), -1);
    }

    static void feed(RailHouses x, String text) {
        byte[] bytes = text.getBytes(StandardCharsets.ISO_8859_1);
        int before = x.about(7);
        int[] five = new int[5];
        for (int at = 0; at < bytes.length; at += 20) {
            for (int i = 0; i < 20; i++) {
                int sign = at + i < bytes.length ? bytes[at + i] & 255 : ' ';
                five[i / 4] = five[i / 4] << 8 | sign;
            }
            x.feed(five[0], five[1], five[2], five[3], five[4]);
        }
        x.end(before + bytes.length);
    }

    static RailHouses told(String text) {
        RailHouses x = new RailHouses();
        feed(x, text);
        if (x.town() < 0) {
            System.out.println("no town, fault " + x.fault(0) + " at " + x.fault(1) + ": " + text);
        }
        return x;
    }

    void close() {
        System.out.println(passed + " passed, " + failed + " failed");
        if (failed > 0 || passed == 0) {
            System.exit(1);
        }
    }
}
