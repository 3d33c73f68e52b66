import java.util.function.Supplier;
import java.util.function.ToLongFunction;

/**
 * The edges that the document's promises 1 to 18 and 24 to 32 name; a part's name is the sentence
 * that it holds the program to. SearchBoundaryTests has those of the searches, TextBoundaryTests
 * those of a town's text.
 */
public final class BoundaryTests {
    private static final Checks CHECKS = new Checks();
    private static final int MIN = Integer.MIN_VALUE;
    private static final int MAX = Integer.MAX_VALUE;
    private static final int BLANKS = 0x20202020;
    private static final String TWO_RAILS =
            "rail l length 9;rail s length 9;house a length 1 weight 1 on l;";

    public static void main(String[] args) {
        newObject();
        newObjectsLimits();
        feed();
        feedFull();
        end();
        town();
        townAnew();
        fault();
        standing();
        room();
        asked();
        lawful();
        pull();
        undo();
        worth();
        tell();
        judge();
        goal();
        lies();
        sight();
        untell();
        later();
        fits();
        known();
        can();
        boxes();
        boxesFull();
        about();
        CHECKS.close();
    }

    private static void part(String sentence) {
        CHECKS.part(sentence);
    }

    private static void due(String call, long got, long want) {
        CHECKS.due(call, got, want);
    }

    /** A call that answers so and does nothing, whatever there is. */
    private static void refused(String call, ToLongFunction<RailHouses> made, long want) {
        refused(call, Picture::lively, made, want);
    }

    private static void refused(String call, Supplier<RailHouses> from,
            ToLongFunction<RailHouses> made, long want) {
        RailHouses x = from.get();
        due(call, made.applyAsLong(x), want);
        due(call + " does nothing", Picture.of(x).equals(Picture.of(from.get())) ? 1 : 0, 1);
    }

    /** Rails a, b, .. of length 30, houses a, b, .. on the first, of length 1 and weight 2. */
    static String many(int houses, int rails) {
        StringBuilder text = new StringBuilder();
        for (int i = 0; i < rails; i++) {
            text.append("rail ").append((char) ('a' + i)).append(" length 30;");
        }
        for (int i = 0; i < houses; i++) {
            text.append("house ").append((char) ('a' + i)).append(" length 1 weight 2 on a;");
        }
        return text.toString();
    }

    private static void newObject() {
        part("1 RailHouses(): An empty TOWN");
        RailHouses x = new RailHouses();
        for (int what = 0; what <= 10; what++) {
            due("about(" + what + ")", x.about(what), 0);
        }
        due("fault(0): ahead of any, too", x.fault(0), 0);
        due("fault(1)", x.fault(1), -1);
        due("on(0, 0)", x.on(0, 0), -1);
        due("where(0, 0)", x.where(0, 0), -1);
        due("where(0, 1)", x.where(0, 1), -1);
        due("room(0)", x.room(0), -1);
        due("asked(0, 1, 1)", x.asked(0, 1, 1), -1000000);
        due("lawful(0, 1, 1)", x.lawful(0, 1, 1), 0);
        due("pull(0, 1, 1)", x.pull(0, 1, 1), -1);
        due("worth()", x.worth(), 0);
        due("tell(0, 1, 1)", x.tell(0, 1, 1), -1);
        due("hush()", x.hush(), 0);
        due("judge(0)", x.judge(0), -1);
        due("judge(1)", x.judge(1), 0);
        due("judge(2)", x.judge(2), 0);
        due("judge(3)", x.judge(3), -1000000);
        due("goal(0)", x.goal(0), -1);
        due("open()", x.open(), 0);
        due("fewest()", x.fewest(), 0);
        due("least()", x.least(), 0);
        due("richest(0)", x.richest(0), 0);
        due("richest(30)", x.richest(30), 0);
        due("richest(31)", x.richest(31), -1000000);
        due("free(0)", x.free(0), -1);
        due("spare(1, 0): no rail", x.spare(1, 0), -1);
        due("spare(99, 1): no rail", x.spare(99, 1), -1);
        due("lies(0)", x.lies(0), -1);
    }

    private static void newObjectsLimits() {
        part("1 RailHouses(): An empty TOWN");
        RailHouses x = new RailHouses();
        due("undo(0)", x.undo(0), 0);
        due("undo(300)", x.undo(300), 0);
        due("undo(301)", x.undo(301), -1);
        due("sight(0, 0, 0, true)", x.sight(0, 0, 0, true), -1);
        due("sight(0, 0, 0, false)", x.sight(0, 0, 0, false), -1);
        due("untell(0)", x.untell(0) ? 1 : 0, 0);
        due("later(0)", x.later(0), 0);
        due("fits(0, 0)", x.fits(0, 0), 1);
        due("fits(1, 0)", x.fits(1, 0), 0);
        due("fits(3, 0)", x.fits(3, 0), 0);
        due("fits(4, 0)", x.fits(4, 0), -1);
        due("can(0, 0, 0)", x.can(0, 0, 0), -1);
        due("back(0)", x.back(0), -1);
        due("image(0)", x.image(0), 0);
        due("back(0) of an empty town", x.back(0), 0);
        due("end(0)", x.end(0), 0);
        due("end(1)", x.end(1), -1);
        due("town() of an empty tape", x.town(), 0);
        due("fault(0)", x.fault(0), 0);
        due("back(0) behind town()", x.back(0), -1);
    }

    private static void feed() {
        part("2 Twenty bytes come behind those on the TAPE: how many there are");
        RailHouses x = new RailHouses();
        Checks.feed(x, "rail l length 9;$$$$");
        due("about(7)", x.about(7), 20);
        due("end(16)", x.end(16), 16);
        due("feed", x.feed(0x686F7573, 0x65206120, 0x6C656E67, 0x74682031, 0x20776569), 36);
        due("feed", x.feed(0x67687420, 0x31206F6E, 0x206C3B20, BLANKS, BLANKS), 56);
        due("town()", x.town(), 1);
        due("where(0, 0)", x.where(0, 0), 0);
        part("2 of each number the highest first");
        for (int place = 0; place < 20; place++) {
            for (int sign : new int[] {'$', 0, 127, 128, 255}) {
                int[] five = {BLANKS, BLANKS, BLANKS, BLANKS, BLANKS};
                int shift = 24 - place % 4 * 8;
                five[place / 4] = five[place / 4] & ~(255 << shift) | sign << shift;
                due("feed", x.feed(five[0], five[1], five[2], five[3], five[4]), 20);
                due("town() with " + sign + " at " + place, x.town(), -1);
                due("its place", x.fault(1), place);
            }
            x = new RailHouses();
        }
    }

    /** A tape of 1,600 bytes. */
    private static RailHouses full(String last) {
        RailHouses x = new RailHouses();
        Checks.feed(x, " ".repeat(1600 - last.length()) + last);
        return x;
    }

    private static void feedFull() {
        part("2 NONE, and nothing comes, if there would be more than 1,600");
        RailHouses x = full("");
        due("feed at 1600", x.feed(0, 0, 0, 0, 0), -1);
        for (int size = 1599; size > 1580; size--) {
            due("end", x.end(size), size);
            due("feed at " + size, x.feed(0, 0, 0, 0, 0), -1);
            due("about(7)", x.about(7), size);
        }
        due("end(1580)", x.end(1580), 1580);
        due("feed at 1580", x.feed(BLANKS, BLANKS, BLANKS, BLANKS, BLANKS), 1600);
        due("feed at 1600", x.feed(0, 0, 0, 0, 0), -1);
        due("about(7)", x.about(7), 1600);
        due("town(): nothing had come", x.town(), 0);
        due("feed at 0", x.feed(0, 0, 0, 0, 0), 20);
        part("A TOWN is a text of at most 1,600 bytes");
        x = full("rail l length 9;  ");
        due("about(7)", x.about(7), 1600);
        due("feed", x.feed(0x24242424, 0x24242424, 0x24242424, 0x24242424, 0x24242424), -1);
        due("town() of 1,600 bytes", x.town(), 0);
        due("about(1)", x.about(1), 1);
        x = full("rail l length 9;");
        due("town(), a token's end at 1,600", x.town(), 0);
        due("about(1)", x.about(1), 1);
        int[][] faults = {{'$', 1, 1599}, {'l', 2, 1600}, {'5', 2, 1599}, {' ', 2, 1600}};
        for (int[] fault : faults) {
            x = full("rail " + (char) fault[0]);
            due("town()", x.town(), -1);
            due("fault(0) at the text's end", x.fault(0), fault[1]);
            due("fault(1) at the text's end", x.fault(1), fault[2]);
        }
    }

    private static void end() {
        part("3 The TAPE has its first n bytes: n");
        RailHouses x = new RailHouses();
        Checks.feed(x, "rail l length 9;rail s length 8;$$$$$$$$");
        due("end(40): all", x.end(40), 40);
        due("end(39)", x.end(39), 39);
        due("about(7)", x.about(7), 39);
        due("end(40): not so many now", x.end(40), -1);
        due("end(32)", x.end(32), 32);
        due("town()", x.town(), 0);
        due("about(1)", x.about(1), 2);
        Checks.feed(x, "rail l length 9;$$$$");
        due("end(0)", x.end(0), 0);
        due("about(7)", x.about(7), 0);
        due("town() of nothing", x.town(), 0);
        due("about(1)", x.about(1), 0);
        part("3 NONE, doing nothing, if it has not so many, or n is below 0");
        for (int n : new int[] {-1, MIN, 19, 1600, 1601, MAX}) {
            refused("end(" + n + ") of 18", y -> y.end(n), -1);
        }
        due("end(1) of none", x.end(1), -1);
        due("end(-1) of none", x.end(-1), -1);
        due("end(0) of none", x.end(0), 0);
    }

    private static void town() {
        part("4 NONE: a FAULT (the TAPE is empty then, too; all else stays)");
        for (String text : new String[] {"$", "rail", "rail q length 9;rail q length 9;",
            "rail q length 0;", "house a length 1 weight 1 on q;",
            "rail q length 1;house z length 2 weight 1 on q;", "law 1;neck 3;draws 4;law",
            "rail q length 9;house z length 1 weight 99 on q;beside z z worth 1;"}) {
            RailHouses x = Picture.lively();
            x.end(0);
            Checks.feed(x, text);
            due("town() of " + text, x.town(), -1);
            due("about(7)", x.about(7), 0);
            RailHouses y = Picture.lively();
            y.end(0);
            String[] parts = {Picture.of(x), Picture.of(y)};
            for (int i = 0; i < 2; i++) {
                parts[i] = parts[i].replaceAll("fault [01] -?[0-9]+\n", "");
            }
            due("all else stays behind " + text, parts[0].equals(parts[1]) ? 1 : 0, 1);
        }
        part("4 how many HOUSES");
        for (int houses = 0; houses <= 8; houses++) {
            for (int rails = 1; rails <= 5; rails++) {
                RailHouses x = new RailHouses();
                Checks.feed(x, many(houses, rails));
                due("town()", x.town(), houses);
                due("about(0)", x.about(0), houses);
                due("about(1)", x.about(1), rails);
                due("about(7): the TAPE is empty", x.about(7), 0);
            }
        }
    }

    private static void townAnew() {
        part("4 (HOUSES stand as told, no PULL was, no GOAL, no row lies there, nothing is told of one,"
                + " SIGHTS are none, BOXES are empty then; the TIME stays)");
        RailHouses x = Picture.lively();
        x.image(0);
        x.image(2);
        x.end(0);
        Checks.feed(x, Picture.TOWN);
        due("town()", x.town(), 3);
        int[] anew = {3, 3, 0, 0, 0, 0, 5, 0, 0, 2, 0, -1};
        for (int what = 0; what < anew.length; what++) {
            due("about(" + what + ")", x.about(what), anew[what]);
        }
        CHECKS.dueRail(x, 0, 0, 1, 2);
        CHECKS.dueRail(x, 1);
        CHECKS.dueRail(x, 2);
        due("undo(300)", x.undo(300), 0);
        due("open()", x.open(), 0);
        due("fewest()", x.fewest(), 0);
        due("hush()", x.hush(), 0);
        due("judge(0)", x.judge(0), -1);
        due("untell(0)", x.untell(0) ? 1 : 0, 0);
        due("untell(1)", x.untell(1) ? 1 : 0, 0);
        due("fits(2, 5)", x.fits(2, 5), Checks.told(Picture.TOWN).fits(2, 0));
        due("sight", x.sight(1, 1, 0, false), 0);
        for (int box = 0; box <= 2; box++) {
            due("back(" + box + ")", x.back(box), -1);
        }
        due("later(0)", x.later(0), 5);
        due("goal(1): the first of a new one", x.goal(1), 1);
        due("fewest()", x.fewest(), 3);
        CHECKS.dueRow(x, 11, 21, 110);
        String tight = "rail l length 2;rail s length 2;house a length 2 weight 1 on l;"
                + "house b length 1 weight 1 on s;house c length 1 weight 1 on s;";
        x = new RailHouses();
        for (int i = 0; i < 4; i++) {
            Checks.feed(x, i == 2 ? "rail l length 1;house a length 2 weight 1 on l;" : tight);
            due("town() of full rails, time " + i, x.town(), i == 2 ? -1 : 3);
            due("room(0)", x.room(0), 0);
            due("room(1)", x.room(1), 0);
        }
    }

    private static void fault() {
        part("5 Of the latest town() what 0: its FAULT (0: without; ahead of any, too),"
                + " 1: its place (NONE). NONE for another what");
        RailHouses x = new RailHouses();
        int[] others = {-1, 2, 3, MIN, MAX};
        for (int what : others) {
            due("fault(" + what + ") ahead of any", x.fault(what), -1);
        }
        Checks.feed(x, "$");
        due("fault(0) ahead of town()", x.fault(0), 0);
        x.town();
        due("fault(0)", x.fault(0), 1);
        due("fault(1): place 0", x.fault(1), 0);
        for (int what : others) {
            due("fault(" + what + ") with one", x.fault(what), -1);
        }
        Checks.feed(x, "rail l length 100;");
        due("fault(0) of the latest town()", x.fault(0), 1);
        x.town();
        due("fault(0)", x.fault(0), 4);
        due("fault(1)", x.fault(1), 14);
        Checks.feed(x, "rail l length 9;");
        x.town();
        due("fault(0) without", x.fault(0), 0);
        due("fault(1) without", x.fault(1), -1);
        for (int what : others) {
            due("fault(" + what + ") without", x.fault(what), -1);
        }
        Checks.feed(x, "rail l length 9");
        x.town();
        due("fault(0) at the end", x.fault(0), 2);
        due("fault(1): the text's length", x.fault(1), 15);
    }

    private static void standing() {
        part("6 The i-th HOUSE on a RAIL (from 0 on); NONE if there is none such");
        for (int[] p : new int[][] {{0, -1}, {0, 1}, {0, 2}, {1, 1}, {-1, 0}, {3, 0}, {4, 0}, {5, 0},
            {MIN, 0}, {MAX, 0}, {0, MIN}, {0, MAX}, {MIN, MIN}, {MAX, MAX}}) {
            refused("on(" + p[0] + ", " + p[1] + ")", y -> y.on(p[0], p[1]), -1);
        }
        RailHouses x = Checks.told(many(8, 5));
        CHECKS.dueRail(x, 0, 0, 1, 2, 3, 4, 5, 6, 7);
        for (int rail = 1; rail <= 4; rail++) {
            CHECKS.dueRail(x, rail);
        }
        due("pull to the last rail", x.pull(0, 3, 4), 6);
        due("pull to the last rail", x.pull(0, 2, 4), 4);
        CHECKS.dueRail(x, 4, 5, 6, 7, 3, 4);
        CHECKS.dueRail(x, 0, 0, 1, 2);
        due("pull from the last rail", x.pull(4, 4, 3), 8);
        CHECKS.dueRail(x, 3, 6, 7, 3, 4);
        CHECKS.dueRail(x, 4, 5);
        due("pull all", x.pull(0, 3, 4), 6);
        CHECKS.dueRail(x, 0);
        CHECKS.dueRail(x, 4, 5, 0, 1, 2);
        part("7 what 0: the RAIL on which a HOUSE stands, 1: how many stand ahead of it there;"
                + " NONE if there is none such, or for another what");
        due("where(2, 0)", x.where(2, 0), 4);
        due("where(2, 1)", x.where(2, 1), 3);
        due("where(7, 1)", x.where(7, 1), 1);
        due("where(8, 0)", x.where(8, 0), -1);
        for (int[] p : new int[][] {{-1, 0}, {3, 0}, {3, 1}, {8, 0}, {MIN, 0}, {MAX, 1}, {0, -1},
            {0, 2}, {0, MIN}, {0, MAX}, {-1, -1}, {MAX, MAX}}) {
            refused("where(" + p[0] + ", " + p[1] + ")", y -> y.where(p[0], p[1]), -1);
        }
    }

    private static void room() {
        part("8 ROOM on a RAIL; NONE if there is none such");
        for (int rail : new int[] {-1, 3, 4, 5, MIN, MAX}) {
            refused("room(" + rail + ")", y -> y.room(rail), -1);
        }
        RailHouses x = Checks.told("rail l length 99;rail s length 1;rail t length 2;rail u length 3;"
                + "rail v length 4;house a length 9 weight 1 on l;house b length 1 weight 1 on l;");
        int[] rooms = {89, 1, 2, 3, 4};
        for (int rail = 0; rail < 5; rail++) {
            due("room(" + rail + ")", x.room(rail), rooms[rail]);
        }
        x.pull(0, 1, 4);
        due("room(4)", x.room(4), 3);
        x.pull(4, 1, 1);
        due("room(1): full", x.room(1), 0);
        due("room(4): empty again", x.room(4), 4);
        due("room(0)", x.room(0), 90);
    }

    private static void asked() {
        part("9 What e comes to for a PULL; GAP if it can't be"
                + " (two unlike RAILS, so many HOUSES there; it may be that, too)");
        for (int[] p : new int[][] {{0, 0, 1}, {0, -1, 1}, {0, 2, 1}, {1, 2, 0}, {0, 1, 0}, {1, 1, 1},
            {-1, 1, 0}, {0, 1, -1}, {3, 1, 0}, {0, 1, 3}, {MIN, 1, 0}, {0, MIN, 1}, {0, 1, MIN},
            {MAX, 1, 0}, {0, MAX, 1}, {0, 1, MAX}}) {
            refused("asked(" + p[0] + ", " + p[1] + ", " + p[2] + ")",
                    y -> y.asked(p[0], p[1], p[2]), -1000000);
            refused("lawful(" + p[0] + ", " + p[1] + ", " + p[2] + ")",
                    y -> y.lawful(p[0], p[1], p[2]), 0);
        }
        RailHouses x = Checks.told(many(8, 5) + "law 100 * from + 10 * many + to;");
        for (int from = -1; from <= 5; from++) {
            for (int to = -1; to <= 5; to++) {
                boolean canBe = from == 0 && to >= 1 && to <= 4;
                due("one", x.asked(from, 1, to), canBe ? 10 + to : -1000000);
                due("eight", x.asked(from, 8, to), canBe ? 80 + to : -1000000);
                due("nine", x.asked(from, 9, to), -1000000);
                due("none", x.asked(from, 0, to), -1000000);
            }
        }
        x = Checks.told(many(2, 2) + "law 0 - 1000 * 1000;");
        due("asked: it may be that", x.asked(0, 1, 1), -1000000);
        due("lawful", x.lawful(0, 1, 1), 1);
        x = Checks.told("rail l length 9;rail s length 1;house a length 2 weight 3 on l;neck 1;"
                + "draws 2;law room - length * weight;");
        due("asked of what is not lawful", x.asked(0, 1, 1), -5);
        due("lawful", x.lawful(0, 1, 1), 0);
        x = Checks.told(TWO_RAILS);
        due("asked without a law", x.asked(0, 1, 1), 1);
    }

    private static void lawful() {
        part("LAWFUL, if their length together is neck at most");
        String two = "rail l length 20;rail s length 20;house a length 4 weight 40 on l;"
                + "house b length 5 weight 50 on l;";
        int[][] necks = {{1, 0, 0}, {4, 0, 0}, {5, 1, 0}, {8, 1, 0}, {9, 1, 1}, {999, 1, 1}};
        for (int[] neck : necks) {
            RailHouses x = Checks.told(two + "neck " + neck[0] + ";");
            due("one, neck " + neck[0], x.lawful(0, 1, 1), neck[1]);
            due("two, neck " + neck[0], x.lawful(0, 2, 1), neck[2]);
            due("pull", x.pull(0, 2, 1), neck[2] == 1 ? 90 : -1);
        }
        part("LAWFUL, if their weight together draws at most");
        int[][] draws = {{1, 0, 0}, {49, 0, 0}, {50, 1, 0}, {89, 1, 0}, {90, 1, 1}, {999, 1, 1}};
        for (int[] draw : draws) {
            RailHouses x = Checks.told(two + "draws " + draw[0] + ";");
            due("one, draws " + draw[0], x.lawful(0, 1, 1), draw[1]);
            due("two, draws " + draw[0], x.lawful(0, 2, 1), draw[2]);
        }
        String heavy = many(8, 5).replace("length 30", "length 72").replace("length 1 weight 2",
                "length 9 weight 99");
        due("999, if not told", Checks.told(heavy).pull(0, 8, 1), 792);
        due("neck 71", Checks.told(heavy + "neck 71;").pull(0, 8, 1), -1);
        due("neck 72", Checks.told(heavy + "neck 72;").pull(0, 8, 1), 792);
        due("draws 791", Checks.told(heavy + "draws 791;").pull(0, 8, 1), -1);
        due("draws 792", Checks.told(heavy + "draws 792;").pull(0, 8, 1), 792);
        part("LAWFUL, if ROOM is no less");
        for (int length = 4; length <= 10; length++) {
            RailHouses x = Checks.told(two.replace("s length 20", "s length " + length));
            due("one, length " + length, x.lawful(0, 1, 1), length >= 5 ? 1 : 0);
            due("two, length " + length, x.lawful(0, 2, 1), length >= 9 ? 1 : 0);
            x.pull(0, 1, 1);
            due("behind one, length " + length, x.lawful(0, 1, 1), length >= 9 ? 1 : 0);
        }
        part("LAWFUL, if e is not 0");
        int[] values = {0, 1, 2, -1, MIN, MAX, 256, 65536};
        String[] laws = {"0", "1", "2", "0-1", "0-2048*1024*1024", "0-2048*1024*1024-1", "256",
            "256*256"};
        for (int i = 0; i < laws.length; i++) {
            RailHouses x = Checks.told(TWO_RAILS + "law " + laws[i] + ";");
            due("asked by " + laws[i], x.asked(0, 1, 1), values[i]);
            due("lawful by " + laws[i], x.lawful(0, 1, 1), values[i] == 0 ? 0 : 1);
            due("pull by " + laws[i], x.pull(0, 1, 1), values[i] == 0 ? -1 : 1);
        }
    }

    private static RailHouses pulled(int times) {
        RailHouses x = Checks.told(TWO_RAILS);
        for (int i = 0; i < times; i++) {
            x.pull(i % 2, 1, 1 - i % 2);
        }
        return x;
    }

    private static void pull() {
        part("11 A PULL: the weight drawn; NONE, doing nothing, if it is not LAWFUL,"
                + " or there were 300");
        for (int[] p : new int[][] {{0, 1, 0}, {0, 2, 1}, {0, 0, 1}, {-1, 1, 0}, {0, 1, 3},
            {2, -1, 0}, {MIN, MIN, MIN}, {MAX, MAX, MAX}, {3, 1, 0}, {1, 2, 0}}) {
            refused("pull(" + p[0] + ", " + p[1] + ", " + p[2] + ")",
                    y -> y.pull(p[0], p[1], p[2]), -1);
        }
        RailHouses x = pulled(299);
        due("about(2)", x.about(2), 299);
        due("the 300th", x.pull(1, 1, 0), 1);
        due("about(2)", x.about(2), 300);
        due("lawful", x.lawful(0, 1, 1), 1);
        due("the 301st", x.pull(0, 1, 1), -1);
        due("where(0, 0)", x.where(0, 0), 0);
        due("about(2)", x.about(2), 300);
        due("about(8)", x.about(8), 300);
        due("undo(1)", x.undo(1), 1);
        due("the 300th again", x.pull(1, 1, 0), 1);
        due("the 301st again", x.pull(0, 1, 1), -1);
        refused("the 301st", () -> pulled(300), y -> y.pull(0, 1, 1), -1);
        refused("not lawful", () -> pulled(300), y -> y.pull(1, 1, 0), -1);
    }

    private static void undo() {
        part("12 so many (0 .. 300), or all there were: how many; NONE, doing nothing,"
                + " for another number");
        for (int pulls : new int[] {-1, 301, 302, MIN, MAX}) {
            refused("undo(" + pulls + ")", y -> y.undo(pulls), -1);
            refused("undo(" + pulls + ") of 300", () -> pulled(300), y -> y.undo(pulls), -1);
        }
        refused("undo(0)", y -> y.undo(0), 0);
        int[][] asks = {{0, 3, 0}, {2, 3, 2}, {3, 3, 3}, {4, 3, 3}, {300, 3, 3}, {1, 0, 0}, {300, 0, 0},
            {299, 300, 299}, {300, 300, 300}, {300, 299, 299}};
        for (int[] ask : asks) {
            RailHouses x = pulled(ask[1]);
            due("undo(" + ask[0] + ") of " + ask[1], x.undo(ask[0]), ask[2]);
            due("about(2)", x.about(2), ask[1] - ask[2]);
            due("about(8)", x.about(8), ask[1] - ask[2]);
            due("where(0, 0)", x.where(0, 0), (ask[1] - ask[2]) % 2);
        }
    }

    private static void worth() {
        part("WORTH: of all on the LINE that are NEIGHBOURS what was told, together");
        due("no house", Checks.told("rail l length 9;").worth(), 0);
        due("one house", Checks.told(TWO_RAILS).worth(), 0);
        for (int sign = -1; sign <= 1; sign += 2) {
            StringBuilder text = new StringBuilder(many(8, 2));
            for (char one = 'a'; one < 'h'; one++) {
                text.append("beside ").append((char) (one + 1)).append(' ').append(one)
                        .append(sign < 0 ? " worth -99;" : " worth 99;");
            }
            RailHouses x = Checks.told(text.toString());
            due("eight neighbours", x.worth(), sign * 693);
            x.pull(0, 1, 1);
            due("seven", x.worth(), sign * 594);
            x.pull(0, 6, 1);
            due("one on the line, seven on the siding", x.worth(), 0);
            x.pull(0, 1, 1);
            due("none on the line", x.worth(), 0);
        }
        RailHouses x = Checks.told(many(3, 2) + "beside a c worth 50;beside b a worth -0;");
        due("one between", x.worth(), 0);
        x.pull(0, 2, 1);
        x.pull(1, 1, 0);
        due("none between", x.worth(), 50);
    }

    private static void tell() {
        part("14 NONE, doing nothing, if it can't be (two unlike RAILS, many 1 .. 8), or there are 12");
        for (int[] p : new int[][] {{0, 0, 1}, {0, 9, 1}, {0, -1, 1}, {0, 1, 0}, {2, 1, 2}, {-1, 1, 0},
            {0, 1, -1}, {3, 1, 0}, {0, 1, 3}, {0, MIN, 1}, {0, MAX, 1}, {MIN, 1, 0}, {0, 1, MAX}}) {
            refused("tell(" + p[0] + ", " + p[1] + ", " + p[2] + ")",
                    y -> y.tell(p[0], p[1], p[2]), -1);
        }
        RailHouses x = Checks.told(many(8, 5));
        for (int i = 1; i <= 12; i++) {
            due("tell " + i, x.tell(i % 5, i % 8 + 1, (i + 1) % 5), i);
        }
        due("tell 13", x.tell(0, 1, 1), -1);
        due("about(3)", x.about(3), 12);
        part("15 The told PULLS are none: how many there were");
        due("hush() of 12", x.hush(), 12);
        due("about(3)", x.about(3), 0);
        due("hush() of none", x.hush(), 0);
        due("tell(0, 8, 4)", x.tell(0, 8, 4), 1);
        due("tell(4, 8, 0)", x.tell(4, 8, 0), 2);
        due("judge(0)", x.judge(0), -1);
        due("judge(1)", x.judge(1), 32);
        due("hush() of 2", x.hush(), 2);
        due("judge(0)", x.judge(0), -1);
        due("judge(1)", x.judge(1), 0);
    }

    private static RailHouses toldTwelve(int bad) {
        RailHouses x = Checks.told(TWO_RAILS + "house b length 1 weight 7 on l;beside a b worth 9;");
        for (int i = 0; i < 12; i++) {
            x.tell(i == bad ? 1 - i % 2 : i % 2, 1, i == bad ? i % 2 : 1 - i % 2);
        }
        return x;
    }

    private static void judge() {
        part("16 what 0: the number of the first that is not LAWFUL as it comes (NONE),"
                + " 1: weight drawn ahead of it, together, 2: WORTH then. GAP for another what");
        for (int bad = 0; bad <= 12; bad++) {
            RailHouses x = toldTwelve(bad % 2 == 0 ? bad : 12);
            due("about(3)", x.about(3), 12);
            due("judge(0)", x.judge(0), bad % 2 == 0 && bad < 12 ? bad : -1);
            due("judge(1)", x.judge(1), bad % 2 == 0 ? 7 * bad : 84);
            due("judge(2)", x.judge(2), 9);
        }
        RailHouses x = toldTwelve(12);
        x.hush();
        x.tell(0, 1, 1);
        due("judge(2) behind one", x.judge(2), 0);
        x.tell(1, 2, 0);
        x.tell(1, 1, 0);
        due("judge(0): the first alone", x.judge(0), 1);
        due("judge(1): ahead of it alone", x.judge(1), 7);
        due("judge(2): then", x.judge(2), 0);
        due("worth() stays", x.worth(), 9);
        for (int what : new int[] {-1, 3, 4, MIN, MAX}) {
            refused("judge(" + what + ")", y -> y.judge(what), -1000000);
        }
        x = pulled(300);
        x.tell(0, 1, 1);
        due("judge(0): LAWFUL behind 300, too", x.judge(0), -1);
        due("judge(1)", x.judge(1), 1);
    }

    private static void goal() {
        part("17 how many are in it; NONE, doing nothing, if there is none such, or it is in it");
        for (int house : new int[] {-1, 0, 1, 2, 3, 8, MIN, MAX}) {
            refused("goal(" + house + ")", y -> y.goal(house), -1);
        }
        part("18 The GOAL is none: how many were in it");
        RailHouses x = Checks.told(many(8, 5));
        due("open() of none", x.open(), 0);
        for (int round = 0; round < 2; round++) {
            for (int i = 0; i < 8; i++) {
                due("goal", x.goal(7 - i), i + 1);
                due("goal again", x.goal(7 - i), -1);
                due("about(4)", x.about(4), i + 1);
            }
            due("a ninth", x.goal(8), -1);
            due("open() of 8", x.open(), 8);
            due("about(4)", x.about(4), 0);
        }
        due("goal(7)", x.goal(7), 1);
        due("open() of 1", x.open(), 1);
        due("open() again", x.open(), 0);
    }

    private static void lies() {
        part("24 The i-th PULL of the row that lies there; NONE if there is none such");
        for (int i : new int[] {-1, 2, 3, 64, MIN, MAX}) {
            refused("lies(" + i + ")", y -> y.lies(i), -1);
        }
        RailHouses x = Picture.lively();
        CHECKS.dueRow(x, 112, 220);
        due("lies(-1)", x.lies(-1), -1);
        x.open();
        due("fewest()", x.fewest(), 0);
        CHECKS.dueRow(x);
        due("lies(-1) of none", x.lies(-1), -1);
        x = Checks.told(many(6, 4));
        for (int house = 5; house >= 0; house--) {
            x.goal(house);
        }
        int pulls = x.fewest();
        due("about(10)", x.about(10), pulls);
        for (int i = 0; i < pulls; i++) {
            int code = x.lies(i);
            due("pull " + code, x.pull(code / 100, code / 10 % 10, code % 10),
                    2 * (code / 10 % 10));
        }
        due("lies behind the row", x.lies(pulls), -1);
        CHECKS.dueRail(x, 0, 5, 4, 3, 2, 1, 0);
    }

    private static void sight() {
        part("25 its number; NONE, doing nothing, if one can't be, or there are 20");
        for (int[] p : new int[][] {{-1, 0, 0}, {4, 0, 0}, {MIN, 0, 0}, {MAX, 0, 0}, {0, -1, 0},
            {0, 3, 0}, {0, MIN, 0}, {0, MAX, 0}, {0, 0, -1}, {0, 0, 3}, {0, 0, MIN}, {0, 0, MAX},
            {0, 8, 0}, {0, 0, 5}}) {
            refused("sight(" + p[0] + ", " + p[1] + ", " + p[2] + ", true)",
                    y -> y.sight(p[0], p[1], p[2], true), -1);
            refused("sight(" + p[0] + ", " + p[1] + ", " + p[2] + ", false)",
                    y -> y.sight(p[0], p[1], p[2], false), -1);
        }
        RailHouses x = Checks.told(many(8, 5));
        for (int i = 0; i < 20; i++) {
            due("sight " + i, x.sight(i % 4, i % 8, i % 5, i % 2 == 0), i);
            due("about(5)", x.about(5), i + 1);
        }
        due("sight 20", x.sight(0, 0, 0, true), -1);
        due("about(5)", x.about(5), 20);
        x = Checks.told(many(8, 5));
        for (int i = 0; i < 19; i++) {
            x.sight(0, 0, 0, true);
        }
        due("fits(0, 0)", x.fits(0, 0), 1);
        due("the last one", x.sight(0, 7, 4, true), 19);
        due("counts, too", x.fits(0, 0), 0);
        due("untell(19)", x.untell(19) ? 1 : 0, 1);
        due("fits(0, 0)", x.fits(0, 0), 1);
        due("sight 20", x.sight(0, 7, 4, true), -1);
        due("fits(0, 0)", x.fits(0, 0), 1);
        due("untell(20)", x.untell(20) ? 1 : 0, 0);
    }

    private static void untell() {
        part("26 It is UNTOLD: true; false if it is so already, or there is none such");
        for (int sight : new int[] {-1, 2, 3, 20, MIN, MAX, 0}) {
            refused("untell(" + sight + ")", y -> y.untell(sight) ? 1 : 0, 0);
        }
        RailHouses x = Picture.lively();
        due("untell(1)", x.untell(1) ? 1 : 0, 1);
        due("untell(1) again", x.untell(1) ? 1 : 0, 0);
        x.later(9);
        due("untell(1) later", x.untell(1) ? 1 : 0, 0);
        due("still UNTOLD since then", x.fits(2, 5), Checks.told(Picture.TOWN).fits(2, 0));
        x = Checks.told(many(1, 1));
        due("untell(0) of none", x.untell(0) ? 1 : 0, 0);
        for (int i = 0; i < 20; i++) {
            due("untell ahead of sight " + i, x.untell(i) ? 1 : 0, 0);
            x.sight(0, 0, 0, false);
            due("fits(0, 0)", x.fits(0, 0), 0);
            due("untell(" + i + ")", x.untell(i) ? 1 : 0, 1);
            due("fits(0, 0)", x.fits(0, 0), 1);
        }
    }

    private static void later() {
        part("27 So much later (0 .. 1000): the TIME; NONE, doing nothing, for another number,"
                + " or if it would be above 100,000");
        for (int by : new int[] {-1, 1001, 1002, MIN, MAX, 100000}) {
            refused("later(" + by + ")", y -> y.later(by), -1);
        }
        RailHouses x = new RailHouses();
        due("later(0)", x.later(0), 0);
        for (int i = 1; i <= 99; i++) {
            due("later(1000)", x.later(1000), 1000 * i);
        }
        due("later(999)", x.later(999), 99999);
        due("later(2)", x.later(2), -1);
        due("later(1000)", x.later(1000), -1);
        due("about(6)", x.about(6), 99999);
        due("later(1)", x.later(1), 100000);
        due("later(1)", x.later(1), -1);
        due("later(1000)", x.later(1000), -1);
        due("later(MAX)", x.later(MAX), -1);
        due("later(0)", x.later(0), 100000);
        due("about(6)", x.about(6), 100000);
        x = new RailHouses();
        for (int i = 1; i <= 100; i++) {
            due("later(1000)", x.later(1000), 1000 * i);
        }
        due("later(1)", x.later(1), -1);
        Checks.feed(x, TWO_RAILS);
        x.town();
        due("sight at 100,000", x.sight(0, 0, 0, false), 0);
        due("fits(0, 99999)", x.fits(0, 99999), 1);
        due("fits(0, 100000)", x.fits(0, 100000), 0);
    }

    private static void fits() {
        part("28 How many rows of n PULLS FIT; NONE for another n");
        for (int n : new int[] {-1, 4, 5, MIN, MAX}) {
            refused("fits(" + n + ", 0)", y -> y.fits(n, 0), -1);
            refused("can(0, " + n + ", 0)", y -> y.can(0, n, 0), -1);
        }
        RailHouses x = Checks.told(many(8, 5));
        due("fits(0, 0)", x.fits(0, 0), 1);
        due("fits(1, 0)", x.fits(1, 0), 32);
        due("fits(2, 0)", x.fits(2, 0), 1024);
        due("fits(3, 0)", x.fits(3, 0), 32768);
        due("can(0, 1, 0)", x.can(0, 1, 0), 31);
        due("can(7, 1, 0)", x.can(7, 1, 0), 30);
        due("can(7, 0, 0)", x.can(7, 0, 0), 1);
        x = Checks.told("rail l length 9;house a length 1 weight 1 on l;");
        due("no other rail", x.fits(1, 0), 0);
        due("no other rail", x.fits(0, 0), 1);
        part("FIT: all that count of n PULLS or fewer are so");
        x = Checks.told(many(2, 2));
        x.sight(0, 0, 1, true);
        for (int n = 0; n <= 3; n++) {
            due("fits(" + n + ", 0): never so", x.fits(n, 0), 0);
            due("can(0, " + n + ", 0)", x.can(0, n, 0), 0);
        }
        x.untell(0);
        for (int pulls = 1; pulls <= 3; pulls++) {
            int sight = x.sight(pulls, 0, 0, true);
            x.sight(pulls, 0, 0, false);
            for (int n = 0; n <= 3; n++) {
                due("fits(" + n + ", 0) with " + pulls, x.fits(n, 0), n < pulls ? 1 << n : 0);
            }
            x.untell(sight);
            x.untell(sight + 1);
        }
        due("fits(3, 0)", x.fits(3, 0), 8);
        part("behind so many LAWFUL PULLS");
        x = Checks.told(many(2, 2) + "law many = 1 and from = 0;");
        int[] rows = {1, 1, 1, 0};
        for (int n = 0; n <= 3; n++) {
            due("fits(" + n + ", 0)", x.fits(n, 0), rows[n]);
        }
    }

    private static void known() {
        part("As known at k those count that were TOLD at k or before, not UNTOLD at k or before");
        RailHouses x = Checks.told(many(2, 2));
        x.later(10);
        x.sight(1, 1, 0, true);
        x.later(10);
        x.untell(0);
        x.later(10);
        int[] ks = {MIN, -1, 0, 9, 10, 11, 19, 20, 21, 30, 31, 100001, MAX};
        for (int k : ks) {
            boolean counts = k >= 10 && k < 20;
            due("fits(1, " + k + ")", x.fits(1, k), counts ? 0 : 2);
            due("can(0, 1, " + k + ")", x.can(0, 1, k), counts ? 0 : 3);
        }
        x = Checks.told(many(2, 2));
        x.sight(1, 0, 0, false);
        for (int k : ks) {
            due("told at 0, fits(1, " + k + ")", x.fits(1, k), k >= 0 ? 1 : 2);
        }
        x.untell(0);
        for (int k : ks) {
            due("untold at once, fits(1, " + k + ")", x.fits(1, k), 2);
        }
        x.sight(1, 0, 0, false);
        x.later(1);
        x.untell(1);
        x.sight(1, 0, 1, false);
        due("fits(1, -1)", x.fits(1, -1), 2);
        due("fits(1, 0)", x.fits(1, 0), 1);
        due("can(0, 1, 0)", x.can(0, 1, 0), 2);
        due("fits(1, 1)", x.fits(1, 1), 1);
        due("can(0, 1, 1)", x.can(0, 1, 1), 1);
    }

    private static void can() {
        part("29 CAN of a HOUSE behind n PULLS, as bits; NONE if one can't be");
        for (int house : new int[] {-1, 3, 8, MIN, MAX}) {
            refused("can(" + house + ", 0, 0)", y -> y.can(house, 0, 0), -1);
            refused("can(" + house + ", 3, 5)", y -> y.can(house, 3, 5), -1);
        }
        RailHouses x = Checks.told(many(8, 5));
        int[] bits = {1, 1, 31, 31};
        x.sight(1, 0, 0, true);
        for (int n = 0; n <= 3; n++) {
            due("can(0, " + n + ", 0)", x.can(0, n, 0), bits[n]);
        }
        x.sight(2, 0, 4, true);
        int[] fewer = {1, 1, 16, 31};
        for (int n = 3; n >= 0; n--) {
            due("can(0, " + n + ", 0)", x.can(0, n, 0), fewer[n]);
        }
        x.sight(3, 0, 4, false);
        due("can(0, 3, 0)", x.can(0, 3, 0), 15);
        due("can(0, 2, 0)", x.can(0, 2, 0), 16);
        due("can(0, 1, 0)", x.can(0, 1, 0), 1);
        due("can(7, 1, 0)", x.can(7, 1, 0), 30);
        due("can(0, 3, -1)", x.can(0, 3, -1), 31);
    }

    private static void boxes() {
        part("30 kept in a BOX 0 .. 2: how many PULLS; NONE if there is none such");
        for (int box : new int[] {-1, 3, 4, MIN, MAX}) {
            refused("image(" + box + ")", y -> y.image(box), -1);
        }
        part("31 how many PULLS; NONE, doing nothing, if nothing was");
        for (int box : new int[] {-1, 3, 4, MIN, MAX, 0, 2}) {
            refused("back(" + box + ")", y -> y.back(box), -1);
        }
        RailHouses x = pulled(0);
        for (int box = 0; box <= 2; box++) {
            due("image(" + box + ")", x.image(box), box);
            for (int other = box + 1; other <= 2; other++) {
                due("back(" + other + ")", x.back(other), -1);
            }
            x.pull(box % 2, 1, 1 - box % 2);
        }
        for (int box = 2; box >= 0; box--) {
            due("back(" + box + ")", x.back(box), box);
            due("where(0, 0)", x.where(0, 0), box % 2);
            due("about(2)", x.about(2), box);
            due("about(8)", x.about(8), box);
        }
        due("undo(9)", x.undo(9), 0);
        due("back(2) goes ahead again", x.back(2), 2);
        due("undo(9)", x.undo(9), 2);
    }

    private static void boxesFull() {
        part("31 All is as it was kept");
        RailHouses x = pulled(300);
        due("image(0) of 300", x.image(0), 300);
        due("undo(299)", x.undo(299), 299);
        due("image(1)", x.image(1), 1);
        due("back(0)", x.back(0), 300);
        due("pull", x.pull(0, 1, 1), -1);
        due("undo(1)", x.undo(1), 1);
        due("pull", x.pull(1, 1, 0), 1);
        due("back(1)", x.back(1), 1);
        due("about(8)", x.about(8), 1);
        due("undo(300)", x.undo(300), 1);
        due("where(0, 0)", x.where(0, 0), 0);
        due("back(0)", x.back(0), 300);
        due("undo(300)", x.undo(300), 300);
        x = Picture.lively();
        x.image(0);
        RailHouses y = Picture.lively();
        y.image(0);
        x.pull(0, 1, 1);
        x.undo(3);
        due("back(0)", x.back(0), 2);
        due("all is as it was", Picture.of(x).equals(Picture.of(y)) ? 1 : 0, 1);
    }

    private static void about() {
        part("32 NONE for another what");
        for (int what : new int[] {-1, 11, 12, MIN, MAX}) {
            refused("about(" + what + ")", y -> y.about(what), -1);
        }
        int[] lively = {3, 3, 2, 2, 3, 2, 5, 18, 5, 2, 2};
        RailHouses x = Picture.lively();
        for (int what = 0; what < lively.length; what++) {
            due("about(" + what + ")", x.about(what), lively[what]);
        }
    }
}
