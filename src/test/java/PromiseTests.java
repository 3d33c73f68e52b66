/** For each promise of the document: ordinary calls, the edges that it names, wrong arguments. */
public final class PromiseTests {
    private static final Checks CHECKS = new Checks();
    private static final String TOWN = "rail l length 9;rail s length 5;rail t length 3;"
            + "house a length 2 weight 4 on l;house b length 2 weight 3 on l;"
            + "house c length 1 weight 2 on l;beside a c worth 5;draws 7;";
    private static final int MIN = Integer.MIN_VALUE;
    private static final int MAX = Integer.MAX_VALUE;

    public static void main(String[] args) {
        newObject();
        feed();
        end();
        town();
        towns();
        fault();
        standing();
        askedAndLawful();
        pull();
        undo();
        worth();
        told();
        goal();
        fewest();
        least();
        richest();
        free();
        spare();
        spent();
        sights();
        times();
        boxes();
        about();
        CHECKS.close();
    }

    private static void due(String call, long got, long want) {
        CHECKS.due(call, got, want);
    }

    private static void newObject() {
        CHECKS.part("1 a new object");
        RailHouses x = new RailHouses();
        for (int what = 0; what <= 10; what++) {
            due("about(" + what + ")", x.about(what), 0);
        }
        due("fault(0)", x.fault(0), 0);
        due("fault(1)", x.fault(1), -1);
        due("town()", x.town(), 0);
        due("fewest()", x.fewest(), 0);
        due("least()", x.least(), 0);
        due("richest(0)", x.richest(0), 0);
        due("fits(3, 0)", x.fits(3, 0), 0);
        due("spare(1, 1)", x.spare(1, 1), -1);
        due("NONE", RailHouses.NONE, -1);
        due("GAP", RailHouses.GAP, -1000000);
    }

    private static void feed() {
        CHECKS.part("2 feed");
        RailHouses x = new RailHouses();
        for (int i = 1; i <= 80; i++) {
            due("feed " + i, x.feed(538976288, 538976288, 538976288, 538976288, 538976288), 20 * i);
        }
        due("feed 81", x.feed(1, 1, 1, 1, 1), -1);
        due("about(7)", x.about(7), 1600);
        due("town()", x.town(), 0);
        due("feed", x.feed(0x7261696C, 0x206C206C, 0x656E6774, 0x6820393B, 0x20202020), 20);
        due("feed", x.feed(0x64726177, 0x73206C20, 0, 0, 0), 40);
        due("town()", x.town(), -1);
        due("fault(0)", x.fault(0), 2);
        due("fault(1)", x.fault(1), 26);
        due("feed", x.feed(0x20FFFFFF, MIN, MAX, -1, 0), 20);
        due("town()", x.town(), -1);
        due("fault(0)", x.fault(0), 1);
        due("fault(1)", x.fault(1), 1);
        for (int i = 1; i <= 79; i++) {
            x.feed(538976288, 538976288, 538976288, 538976288, 538976288);
        }
        due("end(1579)", x.end(1579), 1579);
        due("feed", x.feed(0, 0, 0, 0, 0), 1599);
        due("feed", x.feed(0, 0, 0, 0, 0), -1);
        due("end(1580)", x.end(1580), 1580);
        due("feed to the last byte", x.feed(0, 0, 0, 0, 0), 1600);
    }

    private static void end() {
        CHECKS.part("3 end");
        RailHouses x = new RailHouses();
        due("end(0)", x.end(0), 0);
        due("end(1)", x.end(1), -1);
        x.feed(0x7261696C, 0x206C206C, 0x656E6774, 0x6820393B, 0x24242424);
        due("end(21)", x.end(21), -1);
        due("end(-1)", x.end(-1), -1);
        due("end(MIN)", x.end(MIN), -1);
        due("end(MAX)", x.end(MAX), -1);
        due("about(7)", x.about(7), 20);
        due("end(20)", x.end(20), 20);
        due("end(16)", x.end(16), 16);
        due("end(17)", x.end(17), -1);
        due("town()", x.town(), 0);
        due("about(1)", x.about(1), 1);
    }

    private static void town() {
        CHECKS.part("4 town");
        RailHouses x = Checks.told(TOWN);
        due("about(0)", x.about(0), 3);
        due("about(1)", x.about(1), 3);
        x.pull(0, 1, 1);
        x.goal(1);
        x.goal(0);
        x.tell(0, 1, 2);
        x.fewest();
        x.sight(1, 0, 0, true);
        x.image(0);
        x.later(7);
        int lies = x.about(10);
        due("a row lies there", lies > 0 ? 1 : 0, 1);
        Checks.feed(x, "rail l length 9;house a length 3");
        due("town() with a fault", x.town(), -1);
        due("fault(0)", x.fault(0), 2);
        int[] stays = {3, 3, 1, 1, 2, 1, 7, 0, 2, 0, lies};
        for (int what = 0; what < stays.length; what++) {
            due("about(" + what + ") behind a fault", x.about(what), stays[what]);
        }
        CHECKS.dueRail(x, 0, 0, 1);
        CHECKS.dueRail(x, 1, 2);
        due("room(1)", x.room(1), 4);
        due("back(0)", x.back(0), 1);
        Checks.feed(x, TOWN + "law 1;");
        due("town()", x.town(), 3);
        int[] anew = {3, 3, 0, 0, 0, 0, 7, 0, 0, 1, 0};
        for (int what = 0; what < anew.length; what++) {
            due("about(" + what + ") anew", x.about(what), anew[what]);
        }
        CHECKS.dueRail(x, 0, 0, 1, 2);
        due("lies(0)", x.lies(0), -1);
        due("back(0)", x.back(0), -1);
        due("untell(0)", x.untell(0) ? 1 : 0, 0);
        due("fewest() without a goal", x.fewest(), 0);
        due("town() of no text", x.town(), 0);
        due("about(1)", x.about(1), 0);
        due("worth()", x.worth(), 0);
        x = Checks.told("rail l length 9;rail s length 9;house a length 1 weight 1 on s;"
                + "house b length 1 weight 1 on l;house c length 1 weight 1 on s;"
                + "house d length 1 weight 1 on l;");
        CHECKS.dueRail(x, 0, 1, 3);
        CHECKS.dueRail(x, 1, 0, 2);
    }

    /** Nothing of an earlier town is in a later one. */
    private static void towns() {
        CHECKS.part("4 towns one behind the other");
        String rich = TOWN + "neck 4;law takes a;";
        String plain = "rail l length 9;rail s length 9;house a length 1 weight 9 on s;"
                + "house z length 1 weight 1 on l;house c length 1 weight 1 on l;";
        RailHouses x = new RailHouses();
        for (int i = 0; i < 4; i++) {
            Checks.feed(x, rich);
            due("town()", x.town(), 3);
            due("lawful by the law", x.lawful(0, 1, 1), 0);
            due("worth()", x.worth(), 0);
            due("richest(30)", x.richest(30), 0);
            Checks.feed(x, plain);
            due("town()", x.town(), 3);
            due("about(9)", x.about(9), 0);
            due("lawful without a law", x.lawful(0, 2, 1), 1);
            due("asked without a law", x.asked(0, 2, 1), 1);
            CHECKS.dueRail(x, 0, 1, 2);
            CHECKS.dueRail(x, 1, 0);
            x.pull(1, 1, 0);
            x.pull(0, 2, 1);
            x.pull(1, 1, 0);
            due("worth() without besides", x.worth(), 0);
            due("room(1)", x.room(1), 8);
            due("a draws no more of then", x.pull(0, 2, 1), 10);
            due("richest(3)", x.richest(3), 0);
            Checks.feed(x, TOWN.replace("draws 7;", ""));
            due("town()", x.town(), 3);
            due("lawful without draws, neck", x.lawful(0, 3, 1), 1);
            Checks.feed(x, rich + "neck 1;");
            due("town()", x.town(), -1);
            due("about(9) stays", x.about(9), 0);
            due("lawful as before", x.lawful(0, 3, 1), 1);
            due("fault(0)", x.fault(0), 2);
        }
        x = new RailHouses();
        String besides = TOWN + "beside a b worth 1;beside c b worth 1;";
        for (int i = 0; i < 20; i++) {
            Checks.feed(x, besides);
            due("town(), three more besides", x.town(), 3);
        }
    }

    private static void fault() {
        CHECKS.part("5 fault");
        RailHouses x = Checks.told(TOWN);
        due("fault(0)", x.fault(0), 0);
        due("fault(1)", x.fault(1), -1);
        due("fault(2)", x.fault(2), -1);
        Checks.feed(x, "rail l length 100;");
        x.town();
        due("fault(0)", x.fault(0), 4);
        due("fault(1)", x.fault(1), 14);
        due("fault(2)", x.fault(2), -1);
        due("fault(-1)", x.fault(-1), -1);
        x.pull(0, 1, 1);
        due("fault(0) stays", x.fault(0), 4);
        x.town();
        due("fault(0) of the latest", x.fault(0), 0);
        due("fault(1) of the latest", x.fault(1), -1);
        Checks.feed(x, "$");
        x.town();
        due("fault(1) at 0", x.fault(1), 0);
    }

    private static void standing() {
        CHECKS.part("6 on, 7 where, 8 room");
        RailHouses x = Checks.told(TOWN);
        CHECKS.dueRail(x, 0, 0, 1, 2);
        CHECKS.dueRail(x, 1);
        for (int bad : new int[] {-1, 3, 5, MIN, MAX}) {
            due("on(0, " + bad + ")", x.on(0, bad), -1);
            due("on(" + bad + ", 0)", x.on(bad, 0), -1);
            due("where(" + bad + ", 0)", x.where(bad, 0), -1);
            due("where(0, " + bad + ")", x.where(0, bad), -1);
            due("room(" + bad + ")", x.room(bad), -1);
        }
        due("where(0, 2)", x.where(0, 2), -1);
        due("room(0)", x.room(0), 4);
        due("room(1)", x.room(1), 5);
        due("room(2)", x.room(2), 3);
        x.pull(0, 2, 1);
        due("room(0)", x.room(0), 7);
        due("room(1)", x.room(1), 2);
        CHECKS.dueRail(x, 0, 0);
        CHECKS.dueRail(x, 1, 1, 2);
        x.pull(1, 2, 2);
        due("room(2)", x.room(2), 0);
        CHECKS.dueRail(x, 2, 1, 2);
    }

    private static void askedAndLawful() {
        CHECKS.part("9 asked, 10 lawful");
        RailHouses x = Checks.told(TOWN);
        int[][] bad = {{0, 0, 1}, {0, 4, 1}, {0, -1, 1}, {0, 1, 0}, {-1, 1, 0}, {0, 1, -1}, {0, 1, 3},
            {3, 1, 0}, {1, 1, 0}, {MIN, 1, MAX}, {0, MAX, 1}, {0, MIN, 1}, {MAX, MAX, MAX}};
        for (int[] p : bad) {
            due("asked", x.asked(p[0], p[1], p[2]), -1000000);
            due("lawful", x.lawful(p[0], p[1], p[2]), 0);
        }
        due("asked(0, 1, 1)", x.asked(0, 1, 1), 1);
        due("asked of one too heavy", x.asked(0, 3, 1), 1);
        due("too heavy", x.lawful(0, 3, 1), 0);
        due("not too heavy", x.lawful(0, 2, 1), 1);
        RailHouses y = Checks.told(TOWN + "neck 3;");
        due("neck", y.lawful(0, 2, 1), 1);
        y = Checks.told(TOWN + "neck 2;");
        due("neck", y.lawful(0, 2, 1), 0);
        due("neck", y.lawful(0, 1, 1), 1);
        y = Checks.told(TOWN.replace("draws 7;", ""));
        due("room enough", y.lawful(0, 3, 1), 1);
        due("no room", y.lawful(0, 3, 2), 0);
        due("asked without room", y.asked(0, 3, 2), 1);
        y = Checks.told(TOWN + "law takes c - 1;");
        due("law 0", y.lawful(0, 1, 1), 0);
        due("asked 0", y.asked(0, 1, 1), 0);
        y = Checks.told(TOWN + "law 0 - takes b;");
        due("law 0", y.lawful(0, 1, 1), 0);
        due("law -1", y.lawful(0, 2, 1), 1);
        due("asked -1", y.asked(0, 2, 1), -1);
        y = Checks.told(TOWN + "law 0 - 1000 * 1000;");
        due("asked may be GAP", y.asked(0, 2, 1), -1000000);
        due("lawful by it", y.lawful(0, 2, 1), 1);
        y = Checks.told(TOWN + "law room;");
        due("room ahead", y.asked(0, 1, 1), 5);
        y.pull(0, 1, 1);
        due("room behind", y.asked(0, 1, 1), 4);
    }

    private static void pull() {
        CHECKS.part("11 pull");
        RailHouses x = Checks.told(TOWN);
        due("pull(0, 3, 1)", x.pull(0, 3, 1), -1);
        due("pull(1, 1, 0)", x.pull(1, 1, 0), -1);
        due("pull(0, 1, 0)", x.pull(0, 1, 0), -1);
        due("pull(MAX, 1, MIN)", x.pull(MAX, 1, MIN), -1);
        due("about(2)", x.about(2), 0);
        due("pull(0, 2, 2)", x.pull(0, 2, 2), 5);
        CHECKS.dueRail(x, 2, 1, 2);
        due("pull(2, 1, 0)", x.pull(2, 1, 0), 2);
        CHECKS.dueRail(x, 0, 0, 2);
        CHECKS.dueRail(x, 2, 1);
        due("about(2)", x.about(2), 2);
        due("about(8)", x.about(8), 7);
        x = Checks.told("rail l length 9;rail s length 9;house a length 1 weight 1 on l;");
        for (int i = 0; i < 300; i++) {
            due("pull " + i, x.pull(i % 2, 1, 1 - i % 2), 1);
        }
        due("lawful", x.lawful(0, 1, 1), 1);
        due("pull 301", x.pull(0, 1, 1), -1);
        due("about(2)", x.about(2), 300);
        due("about(8)", x.about(8), 300);
        CHECKS.dueRail(x, 0, 0);
        due("undo(1)", x.undo(1), 1);
        CHECKS.dueRail(x, 1, 0);
        due("pull again", x.pull(1, 1, 0), 1);
        due("image(0)", x.image(0), 300);
        due("undo(300)", x.undo(300), 300);
        due("about(8)", x.about(8), 0);
        due("back(0)", x.back(0), 300);
        due("about(8)", x.about(8), 300);
    }

    private static void undo() {
        CHECKS.part("12 undo");
        RailHouses x = Checks.told(TOWN);
        due("undo(5) of none", x.undo(5), 0);
        x.pull(0, 2, 1);
        x.pull(1, 1, 0);
        x.pull(1, 1, 2);
        for (int bad : new int[] {-1, 301, MIN, MAX}) {
            due("undo(" + bad + ")", x.undo(bad), -1);
        }
        due("undo(0)", x.undo(0), 0);
        due("about(2)", x.about(2), 3);
        due("undo(1)", x.undo(1), 1);
        CHECKS.dueRail(x, 1, 1);
        due("about(8)", x.about(8), 7);
        due("undo(2)", x.undo(2), 2);
        CHECKS.dueRail(x, 0, 0, 1, 2);
        due("about(8)", x.about(8), 0);
        x.pull(0, 1, 2);
        due("undo(300)", x.undo(300), 1);
        CHECKS.dueRail(x, 0, 0, 1, 2);
        RailHouses y = Checks.told(TOWN + "law from = 0;");
        y.pull(0, 1, 1);
        due("undone, though not lawful back", y.undo(1), 1);
        CHECKS.dueRail(y, 0, 0, 1, 2);
    }

    private static void worth() {
        CHECKS.part("13 worth");
        String town = "rail l length 9;rail s length 9;house a length 1 weight 1 on l;"
                + "house b length 1 weight 1 on l;house c length 1 weight 1 on l;"
                + "beside b a worth 7;beside c b worth -9;beside a c worth 50;";
        RailHouses x = Checks.told(town);
        due("worth()", x.worth(), -2);
        x.pull(0, 1, 1);
        due("worth()", x.worth(), 7);
        x.pull(0, 1, 1);
        due("the siding's neighbours do not count", x.worth(), 0);
        x.pull(0, 1, 1);
        due("worth() of nothing", x.worth(), 0);
        x.pull(1, 3, 0);
        due("worth() the other way about", x.worth(), -2);
    }

    private static void told() {
        CHECKS.part("14 tell, 15 hush, 16 judge");
        RailHouses x = Checks.told(TOWN);
        int[][] bad = {{0, 0, 1}, {0, 9, 1}, {0, 1, 0}, {-1, 1, 0}, {0, 1, 3}, {3, 1, 0}, {0, -1, 1},
            {MIN, MIN, MIN}, {MAX, MAX, MAX}};
        for (int[] p : bad) {
            due("tell", x.tell(p[0], p[1], p[2]), -1);
        }
        due("judge(0) of none", x.judge(0), -1);
        due("judge(1) of none", x.judge(1), 0);
        due("judge(2) of none", x.judge(2), 0);
        due("tell more than stand", x.tell(0, 8, 1), 1);
        due("judge(0)", x.judge(0), 0);
        due("hush()", x.hush(), 1);
        due("hush() again", x.hush(), 0);
        due("tell(0, 2, 1)", x.tell(0, 2, 1), 1);
        due("tell(1, 1, 0)", x.tell(1, 1, 0), 2);
        due("judge(0)", x.judge(0), -1);
        due("judge(1)", x.judge(1), 7);
        due("judge(2)", x.judge(2), 5);
        due("tell(2, 1, 0)", x.tell(2, 1, 0), 3);
        due("tell(0, 1, 1)", x.tell(0, 1, 1), 4);
        due("judge(0)", x.judge(0), 2);
        due("judge(1)", x.judge(1), 7);
        due("judge(2)", x.judge(2), 5);
        for (int what : new int[] {-1, 3, MIN, MAX}) {
            due("judge(" + what + ")", x.judge(what), -1000000);
        }
        CHECKS.dueRail(x, 0, 0, 1, 2);
        due("about(2)", x.about(2), 0);
        x.pull(0, 1, 1);
        due("judge(0) from now", x.judge(0), 2);
        due("judge(1) from now", x.judge(1), 10);
        x.pull(0, 1, 2);
        due("judge(0): not so many there", x.judge(0), 0);
        due("judge(1) ahead of the first", x.judge(1), 0);
        for (int i = 5; i <= 12; i++) {
            due("tell " + i, x.tell(1, 8, 2), i);
        }
        due("tell 13", x.tell(1, 1, 2), -1);
        due("hush()", x.hush(), 12);
    }

    private static void goal() {
        CHECKS.part("17 goal, 18 open");
        RailHouses x = Checks.told(TOWN);
        due("open()", x.open(), 0);
        for (int bad : new int[] {-1, 3, MIN, MAX}) {
            due("goal(" + bad + ")", x.goal(bad), -1);
        }
        due("goal(2)", x.goal(2), 1);
        due("goal(2) again", x.goal(2), -1);
        due("goal(0)", x.goal(0), 2);
        due("goal(1)", x.goal(1), 3);
        due("goal(1) again", x.goal(1), -1);
        due("open()", x.open(), 3);
        due("goal(1)", x.goal(1), 1);
        due("about(4)", x.about(4), 1);
    }

    private static void fewest() {
        CHECKS.part("19 fewest, 24 lies");
        RailHouses x = Checks.told(TOWN);
        due("fewest()", x.fewest(), 0);
        CHECKS.dueRow(x);
        x.goal(0);
        due("fewest()", x.fewest(), 0);
        x.goal(2);
        due("fewest()", x.fewest(), 2);
        CHECKS.dueRow(x, 21, 110);
        for (int i : new int[] {-1, 2, MIN, MAX}) {
            due("lies(" + i + ")", x.lies(i), -1);
        }
        x.pull(0, 1, 1);
        CHECKS.dueRow(x, 21, 110);
        due("fewest() from now", x.fewest(), 2);
        CHECKS.dueRow(x, 11, 120);
        x = Checks.told("rail l length 2;rail s length 1;house a length 1 weight 9 on l;"
                + "house b length 1 weight 1 on l;");
        x.goal(0);
        x.pull(0, 1, 1);
        due("fewest()", x.fewest(), 0);
        due("free(1)", x.free(1), 0);
        x.undo(1);
        x.free(0);
        CHECKS.dueRow(x, 11);
        x.open();
        x.goal(1);
        x.goal(0);
        due("fewest() none", x.fewest(), -1);
        CHECKS.dueRow(x);
        x.free(0);
        CHECKS.dueRow(x, 11);
        due("least() none", x.least(), -1);
        CHECKS.dueRow(x);
        x.free(0);
        due("richest(31)", x.richest(31), -1000000);
        CHECKS.dueRow(x);
        longRow();
    }

    /** Four discs on three pegs, each pull to a peg beside: 80 pulls, 3 to the 4th less 1. */
    private static void longRow() {
        RailHouses x = Checks.told("rail l length 15;rail s length 15;rail t length 15;"
                + "house a length 8 weight 1 on t;house b length 4 weight 1 on t;"
                + "house c length 2 weight 1 on t;house d length 1 weight 1 on t;law many = 1"
                + " and (from - to = 1 or to - from = 1)"
                + " and (15 - room) / length * length = 15 - room;");
        for (int house = 0; house < 4; house++) {
            x.goal(house);
        }
        due("fewest() of 80", x.fewest(), 80);
        due("least() of 80", x.least(), 80);
        due("about(10)", x.about(10), 80);
        for (int i = 0; i < 80; i++) {
            int code = x.lies(i);
            due("pull " + i, x.pull(code / 100, code / 10 % 10, code % 10), 1);
        }
        CHECKS.dueRail(x, 0, 0, 1, 2, 3);
        due("fewest()", x.fewest(), 0);
    }

    private static void least() {
        CHECKS.part("20 least");
        RailHouses x = Checks.told(TOWN);
        due("least()", x.least(), 0);
        CHECKS.dueRow(x);
        x.goal(0);
        x.goal(2);
        due("least()", x.least(), 7);
        CHECKS.dueRow(x, 21, 110);
        // two at once are fewer pulls, one after another would weigh as much
        x = Checks.told("rail l length 9;rail s length 9;rail t length 9;"
                + "house a length 1 weight 1 on l;house b length 1 weight 90 on l;"
                + "house c length 1 weight 1 on l;law many < 3;");
        x.goal(2);
        due("fewest()", x.fewest(), 3);
        CHECKS.dueRow(x, 11, 22, 110);
        due("least()", x.least(), 93);
        CHECKS.dueRow(x, 11, 22, 110);
        // more pulls can weigh less
        x = Checks.told("rail l length 9;rail s length 9;rail t length 9;"
                + "house a length 1 weight 1 on l;house b length 1 weight 1 on l;"
                + "house c length 1 weight 50 on l;");
        x.goal(1);
        due("fewest()", x.fewest(), 2);
        CHECKS.dueRow(x, 31, 120);
        due("least()", x.least(), 53);
        CHECKS.dueRow(x, 11, 21, 110);
        x = Checks.told("rail l length 2;rail s length 1;house a length 1 weight 9 on l;"
                + "house b length 1 weight 1 on l;");
        x.goal(1);
        due("least() none", x.least(), -1);
        CHECKS.dueRow(x);
    }

    private static void richest() {
        CHECKS.part("21 richest");
        RailHouses x = Checks.told(TOWN);
        due("richest(0)", x.richest(0), 0);
        CHECKS.dueRow(x);
        due("richest(1)", x.richest(1), 0);
        CHECKS.dueRow(x);
        due("richest(2)", x.richest(2), 5);
        CHECKS.dueRow(x, 21, 110);
        due("richest(30)", x.richest(30), 5);
        CHECKS.dueRow(x, 21, 110);
        for (int bad : new int[] {-1, 31, MIN, MAX}) {
            due("richest(" + bad + ")", x.richest(bad), -1000000);
            due("about(10)", x.about(10), 0);
        }
        x = Checks.told("rail l length 9;rail s length 9;house a length 1 weight 1 on l;"
                + "house b length 1 weight 1 on l;beside a b worth -4;");
        due("richest(0)", x.richest(0), -4);
        due("richest(1)", x.richest(1), 0);
        CHECKS.dueRow(x, 11);
    }

    private static void free() {
        CHECKS.part("22 free");
        RailHouses x = Checks.told(TOWN);
        due("free(0)", x.free(0), 1);
        CHECKS.dueRow(x, 21);
        due("free(1)", x.free(1), 2);
        CHECKS.dueRow(x, 11, 12);
        due("free(2)", x.free(2), 1);
        CHECKS.dueRow(x, 11);
        for (int bad : new int[] {-1, 3, MIN, MAX}) {
            due("free(" + bad + ")", x.free(bad), -1);
            CHECKS.dueRow(x);
        }
        x.pull(0, 2, 1);
        due("free(0)", x.free(0), 0);
        CHECKS.dueRow(x);
        x = Checks.told("rail l length 2;house a length 1 weight 9 on l;"
                + "house b length 1 weight 1 on l;");
        due("free(0) none", x.free(0), -1);
    }

    private static void spare() {
        CHECKS.part("23 spare");
        RailHouses x = Checks.told("rail l length 3;rail s length 1;rail t length 1;"
                + "house a length 1 weight 9 on l;house b length 1 weight 1 on l;"
                + "house c length 1 weight 1 on l;");
        x.goal(0);
        x.goal(2);
        x.fewest();
        int lies = x.about(10);
        due("fewest()", lies, 3);
        due("spare(1, 0)", x.spare(1, 0), 1);
        due("spare(1, 1)", x.spare(1, 1), 2);
        due("about(10)", x.about(10), lies);
        CHECKS.dueRow(x, 11, 12, 110);
        for (int bad : new int[] {0, -1, 100, MIN, MAX}) {
            due("spare(" + bad + ", 0)", x.spare(bad, 0), -1);
            due("spare(" + bad + ", 1)", x.spare(bad, 1), -1);
        }
        for (int bad : new int[] {-1, 2, MIN, MAX}) {
            due("spare(1, " + bad + ")", x.spare(1, bad), -1);
        }
        due("spare(99, 0)", x.spare(99, 0), 1);
        due("room(1) is as it was", x.room(1), 1);
        due("lawful as it was", x.lawful(0, 2, 1), 0);
        due("fewest() as it was", x.fewest(), 3);
        x.open();
        due("spare(1, 0) of nothing", x.spare(1, 0), 0);
        due("spare(1, 1) of nothing", x.spare(1, 1), 0);
        x = Checks.told("rail l length 2;rail s length 1;house a length 1 weight 9 on l;"
                + "house b length 1 weight 1 on l;law room < 4;");
        x.goal(1);
        due("spare(1, 0)", x.spare(1, 0), 1);
        due("spare(1, 1)", x.spare(1, 1), 2);
        due("spare(9, 0)", x.spare(9, 0), -1);
        due("spare(9, 1)", x.spare(9, 1), -1);
    }

    private static String many(int houses, int rails) {
        StringBuilder text = new StringBuilder();
        for (int i = 0; i < rails; i++) {
            text.append("rail ").append((char) ('a' + i)).append(" length 30;");
        }
        for (int i = 0; i < houses; i++) {
            text.append("house ").append((char) ('a' + i)).append(" length 1 weight 2 on a;");
        }
        return text.toString();
    }

    private static void spent() {
        CHECKS.part("SPENT");
        for (String text : new String[] {many(7, 2), many(1, 5), many(8, 5), many(0, 5)}) {
            RailHouses x = Checks.told(text);
            due("fewest()", x.fewest(), -2);
            due("least()", x.least(), -2);
            due("richest(1)", x.richest(1), -1000000);
            due("free(0)", x.free(0), x.about(0) > 0 ? -2 : -1);
            due("spare(1, 0)", x.spare(1, 0), -1);
            due("lies(0)", x.lies(0), -1);
        }
        RailHouses x = Checks.told(many(6, 4));
        x.goal(5);
        x.goal(0);
        due("fewest() of six", x.fewest(), 3);
        CHECKS.dueRow(x, 11, 51, 160);
        due("least() of six", x.least(), 16);
        due("free(3)", x.free(3), 2);
        due("spare(9, 1)", x.spare(9, 1), 3);
        due("richest(30)", x.richest(30), 0);
    }

    private static void sights() {
        CHECKS.part("25 sight, 26 untell, 28 fits, 29 can");
        RailHouses x = Checks.told(TOWN);
        due("fits(0, 0)", x.fits(0, 0), 1);
        due("fits(1, 0)", x.fits(1, 0), 4);
        due("can(0, 1, 0)", x.can(0, 1, 0), 1);
        due("can(1, 1, 0)", x.can(1, 1, 0), 7);
        due("can(2, 1, 0)", x.can(2, 1, 0), 6);
        int[][] bad = {{-1, 0, 0}, {4, 0, 0}, {0, -1, 0}, {0, 3, 0}, {0, 0, -1}, {0, 0, 3},
            {MIN, MIN, MIN}, {MAX, MAX, MAX}};
        for (int[] p : bad) {
            due("sight", x.sight(p[0], p[1], p[2], true), -1);
        }
        due("about(5)", x.about(5), 0);
        due("sight 0", x.sight(1, 1, 0, false), 0);
        due("fits(1, 0)", x.fits(1, 0), 2);
        due("can(2, 1, 0)", x.can(2, 1, 0), 6);
        due("can(1, 1, 0)", x.can(1, 1, 0), 6);
        due("fits(0, 0): not of more pulls", x.fits(0, 0), 1);
        due("sight 1", x.sight(1, 2, 2, true), 1);
        due("can(1, 1, 0)", x.can(1, 1, 0), 4);
        due("fits(1, 0)", x.fits(1, 0), 1);
        x.pull(0, 1, 1);
        due("fits(1, 0): from what the text tells", x.fits(1, 0), 1);
        due("fits(1, -1)", x.fits(1, -1), 4);
        due("fits(1, MIN)", x.fits(1, MIN), 4);
        due("fits(1, MAX)", x.fits(1, MAX), 1);
        for (int n : new int[] {-1, 4, MIN, MAX}) {
            due("fits(" + n + ", 0)", x.fits(n, 0), -1);
            due("can(0, " + n + ", 0)", x.can(0, n, 0), -1);
        }
        for (int house : new int[] {-1, 3, MIN, MAX}) {
            due("can(" + house + ", 0, 0)", x.can(house, 0, 0), -1);
        }
        due("sight 2: cannot be", x.sight(0, 0, 1, true), 2);
        due("fits(0, 0)", x.fits(0, 0), 0);
        due("can(0, 0, 0)", x.can(0, 0, 0), 0);
        due("fits(3, 0)", x.fits(3, 0), 0);
        for (int i = 3; i < 20; i++) {
            due("sight " + i, x.sight(3, 0, 0, true), i);
        }
        due("sight 21st", x.sight(3, 0, 0, true), -1);
        due("about(5)", x.about(5), 20);
        rowsOfPulls();
    }

    private static void rowsOfPulls() {
        RailHouses x = Checks.told("rail l length 9;rail s length 9;house a length 1 weight 1 on l;"
                + "house b length 1 weight 1 on l;");
        due("fits(1, 0)", x.fits(1, 0), 2);
        due("fits(2, 0)", x.fits(2, 0), 4);
        due("fits(3, 0)", x.fits(3, 0), 8);
        x.sight(1, 0, 1, true);
        due("fits(1, 0)", x.fits(1, 0), 1);
        due("fits(2, 0)", x.fits(2, 0), 2);
        due("can(0, 2, 0)", x.can(0, 2, 0), 3);
        due("can(1, 2, 0)", x.can(1, 2, 0), 1);
        due("can(0, 3, 0)", x.can(0, 3, 0), 3);
        due("can(1, 3, 0)", x.can(1, 3, 0), 3);
        x.sight(2, 0, 0, false);
        due("fits(2, 0)", x.fits(2, 0), 1);
        due("can(0, 2, 0)", x.can(0, 2, 0), 2);
        due("fits(1, 0)", x.fits(1, 0), 1);
    }

    private static void times() {
        CHECKS.part("26 untell, 27 later");
        RailHouses x = Checks.told(TOWN);
        for (int bad : new int[] {-1, 1001, MIN, MAX}) {
            due("later(" + bad + ")", x.later(bad), -1);
        }
        due("later(0)", x.later(0), 0);
        due("later(5)", x.later(5), 5);
        due("sight 0", x.sight(1, 1, 0, false), 0);
        due("untell(-1)", x.untell(-1) ? 1 : 0, 0);
        due("untell(1)", x.untell(1) ? 1 : 0, 0);
        due("untell(MAX)", x.untell(MAX) ? 1 : 0, 0);
        due("fits(1, 4)", x.fits(1, 4), 4);
        due("fits(1, 5)", x.fits(1, 5), 2);
        due("fits(1, 9)", x.fits(1, 9), 2);
        due("later(3)", x.later(3), 8);
        due("untell(0)", x.untell(0) ? 1 : 0, 1);
        due("untell(0) again", x.untell(0) ? 1 : 0, 0);
        due("fits(1, 4)", x.fits(1, 4), 4);
        due("fits(1, 5)", x.fits(1, 5), 2);
        due("fits(1, 7)", x.fits(1, 7), 2);
        due("can(1, 1, 7)", x.can(1, 1, 7), 6);
        due("fits(1, 8)", x.fits(1, 8), 4);
        due("can(1, 1, 8)", x.can(1, 1, 8), 7);
        due("fits(1, MAX)", x.fits(1, MAX), 4);
        due("sight 1", x.sight(1, 1, 0, false), 1);
        due("untell(1) at once", x.untell(1) ? 1 : 0, 1);
        due("fits(1, 8): never known", x.fits(1, 8), 4);
        due("about(5)", x.about(5), 2);
        for (int i = 1; i <= 99; i++) {
            x.later(1000);
        }
        due("about(6)", x.about(6), 99008);
        due("later(993)", x.later(993), -1);
        due("later(992)", x.later(992), 100000);
        due("later(1)", x.later(1), -1);
        due("later(0)", x.later(0), 100000);
        x.town();
        due("the time stays", x.about(6), 100000);
    }

    private static void boxes() {
        CHECKS.part("30 image, 31 back");
        RailHouses x = Checks.told(TOWN);
        for (int bad : new int[] {-1, 3, MIN, MAX}) {
            due("image(" + bad + ")", x.image(bad), -1);
            due("back(" + bad + ")", x.back(bad), -1);
        }
        due("back(0) of nothing", x.back(0), -1);
        due("image(2)", x.image(2), 0);
        x.pull(0, 2, 1);
        x.pull(1, 1, 0);
        due("image(0)", x.image(0), 2);
        x.pull(1, 1, 2);
        due("back(0)", x.back(0), 2);
        CHECKS.dueRail(x, 0, 0, 2);
        CHECKS.dueRail(x, 1, 1);
        due("about(8)", x.about(8), 7);
        x.goal(1);
        x.tell(0, 1, 1);
        due("back(2)", x.back(2), 0);
        CHECKS.dueRail(x, 0, 0, 1, 2);
        due("about(8)", x.about(8), 0);
        due("the goal stays", x.about(4), 1);
        due("told pulls stay", x.about(3), 1);
        due("back(0) again", x.back(0), 2);
        due("gone on from", x.pull(1, 1, 0), 3);
        CHECKS.dueRail(x, 0, 0, 2, 1);
        due("undo(2)", x.undo(2), 2);
        CHECKS.dueRail(x, 0, 0);
        CHECKS.dueRail(x, 1, 1, 2);
        due("image(0) anew", x.image(0), 1);
        due("back(1)", x.back(1), -1);
        due("about(2)", x.about(2), 1);
        x.undo(1);
        due("pull(0, 1, 2)", x.pull(0, 1, 2), 2);
        due("back(0)", x.back(0), 1);
        CHECKS.dueRail(x, 1, 1, 2);
        due("undo(1)", x.undo(1), 1);
        CHECKS.dueRail(x, 0, 0, 1, 2);
        due("about(8)", x.about(8), 0);
    }

    private static void about() {
        CHECKS.part("32 about");
        RailHouses x = Checks.told(TOWN + "law not many = (3);");
        x.pull(0, 2, 1);
        x.pull(1, 1, 0);
        x.pull(0, 1, 1);
        x.tell(0, 1, 1);
        x.tell(0, 1, 1);
        x.goal(2);
        x.sight(0, 0, 0, true);
        x.untell(0);
        x.sight(0, 0, 0, true);
        x.later(9);
        x.feed(1, 2, 3, 4, 5);
        x.free(1);
        int[] want = {3, 3, 3, 2, 1, 2, 9, 20, 9, 3, 1};
        for (int what = 0; what < want.length; what++) {
            due("about(" + what + ")", x.about(what), want[what]);
        }
        for (int bad : new int[] {-1, 11, MIN, MAX}) {
            due("about(" + bad + ")", x.about(bad), -1);
        }
    }
}
