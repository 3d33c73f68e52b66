/** The text of a town (Terms): its tokens, its faults with their places, its limits, its law. */
public final class TextTests {
    private static final Checks CHECKS = new Checks();
    private static final String R = "rail l length 50;";
    private static final String AB = R + "house a length 1 weight 5 on l;house b length 2 weight 7 on l;";

    public static void main(String[] args) {
        tokens();
        outOfPlace();
        names();
        numbers();
        room();
        limits();
        units();
        depths();
        values();
        lawsValues();
        CHECKS.close();
    }

    private static void fault(int kind, String marked) {
        CHECKS.dueFault(kind, marked);
    }

    private static void town(int houses, String text) {
        CHECKS.dueTown(houses, text);
    }

    private static void tokens() {
        CHECKS.part("tokens");
        town(0, "");
        town(0, "  \n ");
        town(0, "rail l length 9;");
        town(0, "\nrail\nl\n\nlength9  ;rail abcdefgh length 0009;");
        town(0, "neck1;draws1;law1;");
        town(0, "law1<2;");
        town(1, R + "house l length1 weight1 on l;");
        town(1, "rail az length 9;house za length 1 weight 1 on az;law takes za;");
        fault(1, R + "house l length^1weight 1 on l;");
        fault(1, "^$");
        fault(1, "^Rail l length 9;");
        fault(1, "rail ^\tl length 9;");
        fault(1, "rail l length 9^\u00e9;");
        fault(1, "rail l length 9;^.");
        fault(1, "rail l length 9^,");
        fault(1, "rail ^abcdefghi length 9;");
        fault(1, "rail l length ^00009;");
        fault(1, "rail l length ^9a;");
        fault(1, "rail l length ^12345a;");
        fault(1, "^9rail l length 9;");
        fault(1, "law ^1and 1;");
        fault(4, "rail l length ^1000;");
        fault(2, "rail l length ^(A;");
        fault(1, "rail l length 9^A;");
    }

    private static void outOfPlace() {
        CHECKS.part("out of place");
        fault(2, "rail^");
        fault(2, "rail ^");
        fault(2, "rail l length 9  \n^");
        fault(2, "^;");
        fault(2, "^l");
        fault(2, "^length");
        fault(2, "^9");
        fault(2, "rail ^law");
        fault(2, "rail ^length length 9;");
        for (String word : new String[] {"rail", "house", "length", "weight", "on", "beside", "worth",
            "neck", "draws", "law", "or", "and", "not", "many", "from", "to", "room", "takes"}) {
            fault(2, "rail ^" + word + " length 9;");
        }
        town(0, "rail e length 9;rail town length 9;rail sum length 9;rail unit length 9;");
        fault(2, "rail ^5 length 9;");
        fault(2, "rail l ^weight 9;");
        fault(2, "rail l length ^;");
        fault(2, "rail l length ^-1;");
        fault(2, "rail l length 9 ^9;");
        fault(2, "rail l length 9 ^rail");
        fault(2, "rail l length 9;^;");
        fault(2, R + "house a ^weight 1");
        fault(2, R + "house a length 1 ^on l;");
        fault(2, R + "house a length 1 weight 1 ^l;");
        fault(2, R + "house a length 1 weight 1 on ^on;");
        fault(2, R + "house a length 1 weight 1 on l^");
        fault(2, AB + "beside a b ^5;");
        fault(2, AB + "beside a b worth ^a;");
        fault(2, AB + "beside a b worth - ^- 5;");
        fault(2, AB + "beside a b worth - ^");
        fault(2, AB + "beside a ^worth 5;");
        fault(2, "neck ^;");
        fault(2, "draws ^a;");
        fault(2, "law ^;");
        fault(2, "law 1 ^1;");
        fault(2, "law 1 < 2 ^< 3;");
        fault(2, "law (1^;");
        fault(2, "law 1^);");
        fault(2, "law ^-1;");
        fault(2, "law 1 + ^not 1;");
        fault(2, "law 1 and ^or 1;");
        fault(2, "law ^a;");
        fault(2, "law takes ^(1);");
        fault(2, "law takes ^many;");
        fault(2, "law not^");
    }

    private static void names() {
        CHECKS.part("names");
        fault(3, R + "rail ^l length 9;");
        fault(3, AB + "house ^a length 1 weight 1 on l;");
        town(1, R + "house l length 1 weight 1 on l;");
        fault(5, "house a length 1 weight 1 on ^l;");
        fault(5, AB + "house c length 1 weight 1 on ^a;");
        fault(5, AB + "beside ^l a worth 1;");
        fault(5, AB + "beside a ^c worth 1;house c length 1 weight 1 on l;");
        fault(3, AB + "beside a ^a worth 1;");
        fault(5, AB + "beside ^c c worth 1;");
        fault(3, AB + "beside a b worth 1;beside a ^b worth 1;");
        fault(3, AB + "beside a b worth 0;beside b ^a worth 1;");
        fault(5, AB + "law takes ^c;");
        fault(5, AB + "law takes ^l;");
        fault(5, AB + "law takes a + takes ^c;house c length 1 weight 1 on l;");
        fault(5, R + "house a length 1 weight 1 on ^abcdefgh ;rail abcdefgh length 1;");
    }

    private static void numbers() {
        CHECKS.part("numbers");
        town(0, "rail l length 1;rail s length 99;");
        fault(4, "rail l length ^0;");
        fault(4, "rail l length ^100;");
        town(2, R + "house a length 1 weight 1 on l;house b length 9 weight 99 on l;");
        fault(4, R + "house a length ^0 weight 1 on l;");
        fault(4, R + "house a length ^10 weight 1 on l;");
        fault(4, R + "house a length 1 weight ^0 on l;");
        fault(4, R + "house a length 1 weight ^100 on l;");
        town(2, AB + "beside a b worth -99;");
        town(2, AB + "beside a b worth 99;");
        town(2, AB + "beside a b worth -0;");
        fault(4, AB + "beside a b worth ^100;");
        fault(4, AB + "beside a b worth ^-100;");
        fault(4, AB + "beside a b worth ^- \n 100;");
        fault(1, AB + "beside a b worth - ^10000;");
        town(0, "neck 1;draws 1;");
        town(0, "neck 999;draws 999;");
        fault(4, "neck ^0;");
        fault(4, "neck ^1000;");
        fault(4, "draws ^0;");
        fault(4, "draws ^1000;");
        town(0, "law 0;");
        town(0, "law 9999;");
        fault(4, "rail l length ^0 $");
    }

    private static void room() {
        CHECKS.part("room");
        String small = "rail l length 3;house a length 2 weight 1 on l;";
        town(2, small + "house b length 1 weight 1 on l;");
        fault(6, small + "house b length 2 weight 1 on l^;");
        fault(6, small + "house b length 2 weight 1 on l \n^;");
        fault(2, small + "house b length 2 weight 1 on l^(");
        fault(1, small + "house b length 2 weight 1 on l^,");
        fault(2, small + "house b length 2 weight 1 on l ^l;");
        town(2, small + "rail s length 2;house b length 2 weight 1 on s;");
        fault(6, "rail l length 8;house a length 9 weight 1 on l^;");
    }

    private static void limits() {
        CHECKS.part("limits");
        StringBuilder rails = new StringBuilder();
        for (char name = 'a'; name < 'f'; name++) {
            rails.append("rail ").append(name).append(" length 9;");
        }
        town(0, rails.toString());
        fault(2, rails + " ^rail x length 9;");
        fault(2, rails + "^rail a");
        StringBuilder houses = new StringBuilder(R);
        for (char name = 'a'; name < 'i'; name++) {
            houses.append("house ").append(name).append(" length 1 weight 1 on l;");
        }
        town(8, houses.toString());
        fault(2, houses + "^house x length 1 weight 1 on l;");
        StringBuilder besides = new StringBuilder(houses);
        int many = 0;
        for (char one = 'a'; one < 'i' && many < 20; one++) {
            for (char other = (char) (one + 1); other < 'i' && many < 20; other++) {
                besides.append("beside ").append(one).append(' ').append(other).append(" worth 1;");
                many++;
            }
        }
        town(8, besides.toString());
        fault(2, besides + "^beside g h worth 1;");
        fault(2, "neck 1;^neck 1;");
        fault(2, "draws 1;^draws 1;");
        fault(2, "law 1;^law 1;");
        fault(2, "neck 1;draws 1;law 1; ^law");
    }

    private static String times(int many, String text) {
        return text.repeat(many);
    }

    private static void units() {
        CHECKS.part("units");
        town(0, "law 1" + times(39, "+many") + ";");
        fault(2, "law 1" + times(39, "+many") + "+^1;");
        fault(2, "law 1" + times(39, "+many") + "+^(1);");
        fault(1, "law 1" + times(39, "+many") + "+^$;");
        fault(2, "law 1" + times(38, "+many") + "+(^1);");
        town(0, "law 1" + times(37, "+many") + "+(1);");
        for (String sign : new String[] {"+", "-", "*", "/", " and ", " or "}) {
            town(0, "law 1" + times(39, sign + "1") + ";");
            fault(2, "law 1" + times(39, sign + "1") + sign + "^1;");
        }
        value(1, "1" + times(39, "*1"));
        value(0, "1" + times(38, " and 1") + " and 0");
        value(1, "0" + times(38, " or 0") + " or 7");
        fault(2, "law 1" + times(39, "+many") + " or ^takes x;");
        RailHouses x = Checks.told(AB + "law many = 1 and (from = 0 or not takes b);");
        CHECKS.due("about(9)", x.about(9), 6);
        CHECKS.due("about(9) without a law", Checks.told(AB).about(9), 0);
        CHECKS.due("about(9), 40", Checks.told("law 1" + times(39, "+many") + ";").about(9), 40);
        CHECKS.due("about(9), ((1))", Checks.told("law ((1));").about(9), 3);
    }

    private static void depths() {
        CHECKS.part("depths");
        town(0, "law " + times(7, "(") + "1" + times(7, ")") + ";");
        fault(2, "law " + times(7, "(") + "^(1" + times(8, ")") + ";");
        town(0, "law " + times(7, "not ") + "1;");
        fault(2, "law " + times(7, "not ") + "^not 1;");
        fault(2, "law " + times(7, "not ") + "^(1);");
        town(0, "law " + times(3, "not (") + "not 1" + times(3, ")") + ";");
        fault(2, "law " + times(3, "not (") + "not ^(1" + times(4, ")") + ";");
        fault(2, "law " + times(3, "not (") + "not ^not 1" + times(3, ")") + ";");
        town(0, "law " + times(7, "(") + "1" + times(7, ")") + "+" + times(7, "(") + "1"
                + times(7, ")") + ";");
        town(0, "law not 1 and " + times(7, "not ") + "1;");
    }

    private static void value(int want, String law) {
        RailHouses x = Checks.told("rail l length 9;rail s length 8;rail t length 7;"
                + "house a length 1 weight 5 on l;house b length 2 weight 7 on l;"
                + "house c length 3 weight 11 on s;law " + law + ";");
        CHECKS.due("asked(0, 2, 1) by " + law, x.asked(0, 2, 1), want);
    }

    private static void values() {
        CHECKS.part("words");
        value(2, "many");
        value(12, "weight");
        value(3, "length");
        value(0, "from");
        value(1, "to");
        value(5, "room");
        value(1, "takes a");
        value(0, "takes c");
        value(9999, "9999");
        value(7, "0007");
        value(12, "(weight)");
        value(1, "takes a + takes b = 2");
        RailHouses x = Checks.told(AB + "rail s length 9;law 100*from+10*many+to;");
        CHECKS.due("asked(0, 2, 1)", x.asked(0, 2, 1), 21);
        x.pull(0, 2, 1);
        CHECKS.due("asked(1, 1, 0)", x.asked(1, 1, 0), 110);
    }

    private static void lawsValues() {
        CHECKS.part("law's values");
        value(-5, "1-2-4");
        value(7, "1+2*3");
        value(9, "(1+2)*3");
        value(3, "7/2");
        value(-3, "(0-7)/2");
        value(0, "7/0");
        value(4, "4+7/(2-2)");
        value(2, "8/2/2");
        value(12, "8/2*3");
        value(1, "1<2");
        value(0, "2<2");
        value(1, "3>2");
        value(0, "2>2");
        value(1, "2=2");
        value(0, "2=3");
        value(1, "1+1=2");
        value(5, "5");
        value(1, "5 and 7");
        value(0, "5 and 0");
        value(1, "0 or 7");
        value(0, "0 or 0");
        value(1, "0 and 0 or 1");
        value(1, "1 or 0 and 0");
        value(0, "not 5");
        value(1, "not 0");
        value(1, "not not 5");
        value(1, "not 1 = 2");
        value(0, "not 0 and 0");
        value(1, "not 1 or 1");
        value(1, "(1 or 0) = 1");
        value(-1000000, "0-1000*1000");
        value(9999 * 9999 * 9999, "9999*9999*9999");
        value(Integer.MIN_VALUE, "0-2048*1024*1024");
        value(Integer.MIN_VALUE, "(0-2048*1024*1024)/(0-1)");
        value(Integer.MAX_VALUE, "0-2048*1024*1024-1");
    }
}
