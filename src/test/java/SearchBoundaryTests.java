/**
 * The edges that the document's paragraph ==== 3. and the promises 19 to 23 name; a part's name is
 * the sentence that it holds the program to.
 */
public final class SearchBoundaryTests {
    private static final Checks CHECKS = new Checks();
    private static final int MIN = Integer.MIN_VALUE;
    private static final int MAX = Integer.MAX_VALUE;
    private static final int GAP = -1000000;
    /** Four discs on three pegs, each pull to a peg beside: 80 pulls to the goal. */
    private static final String PEGS = "rail l length 15;rail s length 15;rail t length 15;"
            + "house a length 8 weight 1 on t;house b length 4 weight 1 on t;"
            + "house c length 2 weight 1 on t;house d length 1 weight 1 on t;"
            + "beside a b worth 1;beside b c worth 1;beside c d worth 1;law many = 1"
            + " and (from - to = 1 or to - from = 1)"
            + " and (15 - room) / length * length = 15 - room;";

    public static void main(String[] args) {
        order();
        fewest();
        fewestNone();
        least();
        richest();
        richestFar();
        free();
        spare();
        spareBounds();
        spent();
        stays();
        CHECKS.close();
    }

    private static void part(String sentence) {
        CHECKS.part(sentence);
    }

    private static void due(String call, long got, long want) {
        CHECKS.due(call, got, want);
    }

    private static RailHouses aim(String text, int... houses) {
        RailHouses x = Checks.told(text);
        for (int house : houses) {
            x.goal(house);
        }
        return x;
    }

    private static void order() {
        part("PULLS are ordered by from, then many, then to; rows of PULLS one by one");
        String abc = BoundaryTests.many(3, 3);
        RailHouses x = Checks.told(abc + "house d length 1 weight 1 on b;beside b c worth -5;"
                + "beside c d worth 5;law from = 0 and many = 2 or from = 1 and many = 1;");
        due("by from: richest(1)", x.richest(1), 0);
        CHECKS.dueRow(x, 21);
        x = Checks.told(abc + "beside b c worth -5;law many = 1 and to = 2 or many = 2 and to = 1;");
        due("by many: richest(1)", x.richest(1), 0);
        CHECKS.dueRow(x, 12);
        x = Checks.told(abc + "beside b c worth -5;");
        due("by to: richest(1)", x.richest(1), 0);
        CHECKS.dueRow(x, 11);
        x = Checks.told(abc);
        due("one by one: free(1)", x.free(1), 2);
        CHECKS.dueRow(x, 11, 12);
        x = aim(abc + "law many < 3;", 0, 2, 1);
        due("one by one: fewest()", x.fewest(), 3);
        CHECKS.dueRow(x, 11, 11, 120);
        x = aim(abc + "law many < 3;", 2);
        due("one by one: least()", x.least(), 8);
        CHECKS.dueRow(x, 11, 22, 110);
    }

    private static void fewest() {
        part("a GOAL is a row of HOUSES with which the LINE is to begin (none at first)");
        RailHouses x = Checks.told(BoundaryTests.many(3, 3));
        due("fewest() of none", x.fewest(), 0);
        CHECKS.dueRow(x);
        x.goal(0);
        due("the LINE has more", x.fewest(), 0);
        CHECKS.dueRow(x);
        x.goal(1);
        x.goal(2);
        due("the LINE is so", x.fewest(), 0);
        CHECKS.dueRow(x);
        x.pull(0, 1, 2);
        due("the LINE is too short", x.fewest(), 1);
        CHECKS.dueRow(x, 210);
        x.pull(0, 2, 1);
        due("the LINE is empty", x.fewest(), 2);
        CHECKS.dueRow(x, 120, 210);
        x.open();
        due("fewest() of none again", x.fewest(), 0);
        CHECKS.dueRow(x);
        x = aim(BoundaryTests.many(6, 4), 0, 1, 2, 3, 4, 5);
        due("all six", x.fewest(), 0);
        x = aim(BoundaryTests.many(6, 4), 0, 1, 2, 3, 5, 4);
        due("all six, the last two changed", x.fewest(), 3);
        CHECKS.dueRow(x, 11, 11, 120);
        x = aim(BoundaryTests.many(1, 2), 0);
        x.pull(0, 1, 1);
        due("one on the siding", x.fewest(), 1);
        CHECKS.dueRow(x, 110);
    }

    private static void fewestNone() {
        part("19 NONE if there are none; -2 if SPENT. The row lies there then"
                + " (behind NONE, -2: none; so below)");
        String[] none = {BoundaryTests.many(2, 1),
            BoundaryTests.many(2, 2) + "law takes b;", BoundaryTests.many(2, 3) + "draws 1;",
            BoundaryTests.many(2, 3) + "law 0;",
            "rail l length 3;rail s length 1;house a length 2 weight 2 on l;"
                + "house b length 1 weight 2 on l;"};
        for (String text : none) {
            RailHouses x = Checks.told(text);
            x.pull(0, 1, 1);
            x.undo(1);
            x.goal(1);
            x.goal(0);
            due("fewest() in " + text, x.fewest(), -1);
            CHECKS.dueRow(x);
            due("least() in " + text, x.least(), -1);
            CHECKS.dueRow(x);
        }
        RailHouses x = Checks.told(none[1]);
        due("free(1)", x.free(1), 1);
        CHECKS.dueRow(x, 11);
        x.goal(1);
        x.goal(0);
        due("fewest() none", x.fewest(), -1);
        CHECKS.dueRow(x);
        due("free(1)", x.free(1), 1);
        due("least() none", x.least(), -1);
        CHECKS.dueRow(x);
        due("free(1)", x.free(1), 1);
        due("free(2): no such HOUSE", x.free(2), -1);
        CHECKS.dueRow(x);
    }

    private static void least() {
        part("LEAST: likewise so that the weight drawn, together, is least;"
                + " of like ones of fewest PULLS, then the first row");
        RailHouses x = Checks.told(BoundaryTests.many(3, 3));
        due("least() of none", x.least(), 0);
        CHECKS.dueRow(x);
        x = aim(BoundaryTests.many(3, 3), 0, 1);
        due("least() of what is so", x.least(), 0);
        CHECKS.dueRow(x);
        x = aim(BoundaryTests.many(3, 3), 2);
        due("as much in two pulls as in three", x.least(), 8);
        CHECKS.dueRow(x, 31, 110);
        String text = "rail l length 9;rail s length 9;rail t length 9;"
                + "house a length 1 weight 1 on l;house b length 1 weight 1 on l;"
                + "house c length 1 weight 1 on l;";
        x = aim(text, 1);
        due("fewest()", x.fewest(), 2);
        CHECKS.dueRow(x, 31, 120);
        due("one less in three pulls", x.least(), 4);
        CHECKS.dueRow(x, 11, 21, 110);
        x = aim(text.replace("weight 1", "weight 99"), 1);
        due("of 99 each", x.least(), 396);
        CHECKS.dueRow(x, 11, 21, 110);
        x = aim(BoundaryTests.many(6, 4).replace("weight 2", "weight 99"), 5, 4, 3, 2, 1, 0);
        due("six of 99, changed about", x.least(), 99 * 12);
        int pulls = x.about(10);
        x.fewest();
        due("in the fewest pulls of that weight", pulls >= x.about(10) ? 1 : 0, 1);
        x = aim(text.replace("a length 1 weight 1 ", "a length 1 weight 99 "), 1, 2);
        due("fewest()", x.fewest(), 2);
        CHECKS.dueRow(x, 31, 120);
        due("once 99 alone", x.least(), 103);
        CHECKS.dueRow(x, 31, 120);
    }

    private static void richest() {
        part("RICHEST within n PULLS (0 .. 30): the greatest WORTH that can be come to;"
                + " of like ones of fewest PULLS, then the first row");
        String text = BoundaryTests.many(3, 3) + "beside a c worth 5;beside b c worth 1;";
        RailHouses x = Checks.told(text);
        for (int n : new int[] {-1, 31, 32, MIN, MAX}) {
            due("richest(" + n + ")", x.richest(n), GAP);
        }
        due("richest(0)", x.richest(0), 1);
        CHECKS.dueRow(x);
        due("richest(1)", x.richest(1), 1);
        CHECKS.dueRow(x);
        due("richest(2)", x.richest(2), 5);
        CHECKS.dueRow(x, 21, 110);
        due("richest(3)", x.richest(3), 6);
        CHECKS.dueRow(x, 11, 11, 120);
        due("richest(30)", x.richest(30), 6);
        CHECKS.dueRow(x, 11, 11, 120);
        x = Checks.told(BoundaryTests.many(4, 2) + "beside b c worth -5;");
        due("one pull, though two would come first", x.richest(2), 0);
        CHECKS.dueRow(x, 21);
        x = Checks.told("rail l length 9;house a length 1 weight 1 on l;"
                + "house b length 1 weight 1 on l;beside a b worth -99;");
        due("nothing better than -99", x.richest(30), -99);
        CHECKS.dueRow(x);
        StringBuilder six = new StringBuilder(BoundaryTests.many(6, 4));
        for (char one = 'a'; one < 'f'; one++) {
            six.append("beside ").append(one).append(' ').append((char) (one + 1)).append(" worth 99;");
        }
        x = Checks.told(six.toString());
        due("richest(0) of six", x.richest(0), 495);
        x.pull(0, 3, 3);
        due("richest(0)", x.richest(0), 198);
        CHECKS.dueRow(x);
        due("richest(1)", x.richest(1), 495);
        CHECKS.dueRow(x, 330);
        due("richest(0) of no house", Checks.told("rail l length 9;").richest(0), 0);
    }

    private static void richestFar() {
        part("RICHEST within n PULLS (0 .. 30): rows of just as many, of one more");
        RailHouses x = aim(PEGS, 0, 1, 2, 3);
        due("fewest()", x.fewest(), 80);
        int[] row = new int[80];
        for (int i = 0; i < 80; i++) {
            row[i] = x.lies(i);
        }
        for (int i = 0; i <= 80; i++) {
            int left = 80 - i;
            if (left == 32 || left == 31) {
                due("richest(30), " + left + " away", x.richest(30) < 3 ? 1 : 0, 1);
            }
            if (left == 30 || left == 29 || left < 3) {
                due("richest(30), " + left + " away", x.richest(30), 3);
                due("about(10)", x.about(10), left);
                due("richest, " + left + " away", x.richest(left), 3);
                due("richest, one too few", x.richest(left - 1) < 3 ? 1 : 0, 1);
            }
            if (i < 80) {
                x.pull(row[i] / 100, row[i] / 10 % 10, row[i] % 10);
            }
        }
        due("worth()", x.worth(), 3);
    }

    private static void free() {
        part("FREE of a HOUSE: the fewest PULLS by which none is its NEIGHBOUR");
        RailHouses x = Checks.told(BoundaryTests.many(3, 2));
        for (int house : new int[] {-1, 3, 4, MIN, MAX}) {
            due("free(" + house + ")", x.free(house), -1);
            CHECKS.dueRow(x);
        }
        due("free(0): one behind", x.free(0), 1);
        CHECKS.dueRow(x, 21);
        due("free(1): both ways", x.free(1), 2);
        CHECKS.dueRow(x, 21, 110);
        due("free(2): one ahead", x.free(2), 1);
        CHECKS.dueRow(x, 11);
        x.pull(0, 2, 1);
        due("free(0): none", x.free(0), 0);
        CHECKS.dueRow(x);
        due("free(1): on the siding, one behind", x.free(1), 1);
        CHECKS.dueRow(x, 110);
        due("free(2): on the siding, one ahead", x.free(2), 2);
        CHECKS.dueRow(x, 120, 11);
        due("the only house", Checks.told(BoundaryTests.many(1, 1)).free(0), 0);
        x = Checks.told(BoundaryTests.many(2, 1));
        due("free(0) none", x.free(0), -1);
        CHECKS.dueRow(x);
        due("free(1) none", x.free(1), -1);
        x = Checks.told(BoundaryTests.many(2, 2) + "law 0;");
        due("free(1) none", x.free(1), -1);
        CHECKS.dueRow(x);
        x = Checks.told(BoundaryTests.many(6, 4));
        for (int house = 0; house < 6; house++) {
            due("free(" + house + ") of six", x.free(house), house == 0 || house == 5 ? 1 : 2);
        }
        due("free(6) of six", x.free(6), -1);
    }

    private static void spare() {
        part("SPARE by n (1 .. 99): the RAIL by whose being longer by n FEWEST has the fewest PULLS;"
                + " of like ones the first RAIL");
        String two = "rail l length 3;rail s length 1;house a length 1 weight 1 on l;"
                + "house b length 2 weight 1 on l;";
        RailHouses x = aim(two, 1);
        due("spare(1, 0): too little", x.spare(1, 0), -1);
        due("spare(1, 1): too little", x.spare(1, 1), -1);
        due("spare(2, 0): just enough", x.spare(2, 0), 1);
        due("spare(2, 1): just enough", x.spare(2, 1), 2);
        due("spare(3, 0)", x.spare(3, 0), 1);
        x = aim(two + "rail t length 1;", 1);
        due("spare(2, 0): like ones", x.spare(2, 0), 1);
        due("spare(2, 1)", x.spare(2, 1), 2);
        x = aim("rail l length 1;rail s length 1;house a length 1 weight 1 on l;"
                + "house b length 1 weight 1 on s;", 0, 1);
        due("spare(1, 0): the LINE", x.spare(1, 0), 0);
        due("spare(1, 1): the LINE", x.spare(1, 1), 1);
        x = aim("rail l length 9;rail s length 1;rail t length 1;rail u length 1;"
                + "house a length 1 weight 1 on l;house b length 1 weight 1 on l;"
                + "law from + to = 3;", 1);
        due("spare(1, 0): the last RAIL", x.spare(1, 0), 3);
        due("spare(1, 1)", x.spare(1, 1), 2);
        x = aim(BoundaryTests.many(3, 3), 0);
        due("spare(1, 0): so already", x.spare(1, 0), 0);
        due("spare(1, 1): so already", x.spare(1, 1), 0);
        x = aim("rail l length 9;house a length 1 weight 1 on l;", 0);
        due("one RAIL", x.spare(99, 0), 0);
        x = aim("rail l length 9;house a length 1 weight 1 on l;house b length 1 weight 1 on l;", 1);
        due("none by any", x.spare(99, 0), -1);
        due("none by any", x.spare(99, 1), -1);
    }

    private static void spareBounds() {
        part("23 NONE if there are none by any, one can't be, or SPENT. (What lies there stays.)");
        RailHouses x = aim("rail l length 2;rail s length 99;house a length 1 weight 1 on l;"
                + "house b length 1 weight 1 on l;"
                + "law room > 197 or to = 0 or takes b and many = 1;", 1);
        due("free(0)", x.free(0), 1);
        due("spare(98, 0)", x.spare(98, 0), -1);
        due("spare(99, 0)", x.spare(99, 0), 1);
        due("spare(99, 1)", x.spare(99, 1), 2);
        for (int n : new int[] {0, -1, 100, 101, MIN, MAX}) {
            due("spare(" + n + ", 0)", x.spare(n, 0), -1);
            due("spare(" + n + ", 1)", x.spare(n, 1), -1);
        }
        for (int what : new int[] {-1, 2, 3, MIN, MAX}) {
            due("spare(99, " + what + ")", x.spare(99, what), -1);
        }
        CHECKS.dueRow(x, 11);
        due("room(0)", x.room(0), 0);
        due("room(1)", x.room(1), 99);
        due("asked(0, 2, 1)", x.asked(0, 2, 1), 0);
        RailHouses y = Checks.told(BoundaryTests.many(1, 1));
        due("spare(1, 0)", y.spare(1, 0), 0);
        due("spare(0, 0)", y.spare(0, 0), -1);
        due("spare(99, 0)", y.spare(99, 0), 0);
        due("spare(100, 0)", y.spare(100, 0), -1);
        due("spare(1, 0), no house", Checks.told("rail l length 1;").spare(1, 0), 0);
    }

    private static void spent() {
        part("All four: SPENT with more than 6 HOUSES, or more than 4 RAILS");
        for (int houses = 0; houses <= 8; houses++) {
            for (int rails = 1; rails <= 5; rails++) {
                boolean isSpent = houses > 6 || rails > 4;
                RailHouses x = Checks.told(BoundaryTests.many(houses, rails));
                String in = " of " + houses + " houses, " + rails + " rails";
                x.goal(0);
                due("fewest()" + in, x.fewest(), isSpent ? -2 : 0);
                CHECKS.dueRow(x);
                due("least()" + in, x.least(), isSpent ? -2 : 0);
                CHECKS.dueRow(x);
                due("richest(0)" + in, x.richest(0), isSpent ? GAP : 0);
                due("richest(30)" + in, x.richest(30), isSpent ? GAP : 0);
                CHECKS.dueRow(x);
                due("spare(1, 0)" + in, x.spare(1, 0), isSpent ? -1 : 0);
                due("spare(99, 1)" + in, x.spare(99, 1), isSpent ? -1 : 0);
                if (houses > 0) {
                    int want = houses == 1 ? 0 : rails == 1 ? -1 : 1;
                    due("free(0)" + in, x.free(0), isSpent ? -2 : want);
                    due("about(10)" + in, x.about(10), isSpent || want < 0 ? 0 : want);
                }
            }
        }
    }

    private static void stays() {
        part("19 .. 23: nothing but the row is other than it was");
        String as = Picture.of(Picture.lively());
        RailHouses x = Picture.lively();
        x.least();
        x.richest(30);
        x.free(0);
        x.free(3);
        x.richest(31);
        x.spare(9, 0);
        x.fewest();
        due("as it was", Picture.of(x).equals(as) ? 1 : 0, 1);
    }
}
