import java.nio.charset.StandardCharsets;

/**
 * The edges that the Terms name for a town's text; a part's name is the sentence that it holds the
 * program to. In a text with a fault the ^ stands at the fault's place.
 */
public final class TextBoundaryTests {
    private static final Checks CHECKS = new Checks();
    private static final String R = "rail l length 50;";
    private static final String ABC = R + "house a length 1 weight 5 on l;"
            + "house b length 2 weight 7 on l;house c length 3 weight 9 on l;";
    private static final String[] WORDS = {"rail", "house", "length", "weight", "on", "beside",
        "worth", "neck", "draws", "law", "or", "and", "not", "many", "from", "to", "room", "takes"};

    public static void main(String[] args) {
        bytes();
        words();
        numbers();
        blanks();
        standingWords();
        counts();
        amounts();
        signedAmounts();
        names();
        besides();
        room();
        units();
        depths();
        firstByPlace();
        leastAtOnePlace();
        ends();
        values();
        oneByteOff();
        CHECKS.close();
    }

    private static void part(String sentence) {
        CHECKS.part(sentence);
    }

    private static void fault(int kind, String marked) {
        CHECKS.dueFault(kind, marked);
    }

    private static void town(int houses, String text) {
        CHECKS.dueTown(houses, text);
    }

    private static void bytes() {
        part("TOKENS: words (a .. z), N, signs ; ( ) < > = + - * /; blanks (32, 10); none of these: 1");
        for (char sign = 0; sign < 256; sign++) {
            if (sign == ' ' || sign == '\n') {
                town(0, "" + sign);
                town(0, "rail" + sign + "l length 9;");
            } else if (sign >= 'a' && sign <= 'z') {
                fault(2, "^" + sign);
                town(0, "rail l" + sign + " length 9;");
            } else if (sign >= '0' && sign <= '9') {
                fault(2, "^" + sign);
                town(0, "law " + sign + ";");
            } else if (";()<>=+-*/".indexOf(sign) >= 0) {
                fault(2, "^" + sign);
                fault(2, "rail ^" + sign + "l length 9;");
            } else if (sign != '^') {
                fault(1, "^" + sign);
                fault(1, "rail l length 9^" + sign + ";");
                fault(1, "rail l length 9;^" + sign);
            }
        }
    }

    private static void words() {
        part("words 8 at most; a longer word: 1 at its first byte");
        for (int letters = 1; letters <= 12; letters++) {
            String word = "zbcdefghijkl".substring(0, letters);
            if (letters <= 8) {
                town(1, "rail " + word + " length 9;house " + word + " length 1 weight 1 on " + word
                        + ";law takes " + word + ";");
                fault(2, "^" + word);
                fault(2, "^" + word + ";");
                fault(5, ABC + "beside ^" + word + " a worth 1;");
                fault(5, ABC + "beside a ^" + word + " worth 1;");
                fault(5, ABC + "law takes ^" + word + ";");
                fault(5, R + "house a length 1 weight 1 on ^" + word + ";");
            } else {
                fault(1, "rail ^" + word + " length 9;");
                fault(1, R + "house ^" + word + " length 1 weight 1 on l;");
                fault(1, "^" + word);
                fault(1, "^" + word + ";");
                fault(1, ABC + "beside ^" + word + " a worth 1;");
                fault(1, ABC + "beside a ^" + word + " worth 1;");
                fault(1, ABC + "law takes ^" + word + ";");
                fault(1, R + "house a length 1 weight 1 on ^" + word + ";");
                fault(1, "rail l ^" + word + " 9;");
            }
        }
        part("words: two that differ in the last letter alone, the first alone, in how long they are");
        town(0, "rail abcdefgh length 9;rail abcdefgi length 9;rail bbcdefgh length 9;"
                + "rail abcdefg length 9;rail a length 9;");
        fault(3, "rail abcdefgh length 9;rail abcdefgi length 9;rail ^abcdefgh length 9;");
        town(0, "rail a length 9;rail aa length 9;rail aaa length 9;rail aaaa length 9;");
        town(0, "rail rai length 9;rail rails length 9;rail raill length 9;rail z length 9;");
    }

    private static void numbers() {
        part("N (1 to 4 digits); more digits: 1 at its first byte;"
                + " no letter directly behind an N: 1 at its first byte");
        String[] ahead = {"rail l length ", R + "house a length ", R + "house a length 1 weight ",
            ABC + "beside a b worth ", ABC + "beside a b worth -", "neck ", "draws ", "law ",
            "law 1 + ", "law (", "law not "};
        String[] behind = {";", " weight 1 on l;", " on l;", ";", ";", ";", ";", ";", ";", ");", ";"};
        int[] houses = {0, 1, 1, 3, 3, 0, 0, 0, 0, 0, 0};
        for (int i = 0; i < ahead.length; i++) {
            for (String number : new String[] {"1", "01", "001", "0001"}) {
                town(houses[i], ahead[i] + number + behind[i]);
            }
            for (String number : new String[] {"00001", "10000", "99999", "000000000001",
                "4294967297", "1a", "1234z", "12345z", "0on"}) {
                fault(1, ahead[i] + "^" + number + behind[i]);
            }
            fault(2, ahead[i] + "1 ^1" + behind[i]);
            fault(2, ahead[i] + "1 ^a" + behind[i]);
        }
        fault(1, "law ^1or 1;");
        town(0, "law 1 or 1;");
        town(0, "law 1<1 or\n1;");
        fault(1, "law 1<^1or 1;");
        fault(1, R + "house a length ^1weight 1 on l;");
        fault(1, R + "house a length 1 weight ^1on l;");
        fault(2, "^1");
        fault(2, " ^1234 ");
    }

    private static void blanks() {
        part("blanks (32, 10) part them or not; each is as long as can be");
        town(0, "rail l length9;");
        town(1, "\n\n rail\nl\nlength\n9\n;\nhouse\na\nlength\n1\nweight\n1\non\nl\n;\n");
        town(0, "law(1+many)*2<3 or(1)and not(1);");
        town(0, "law not(1)or(1)and(1);");
        fault(2, "law 1 - ^- 1;");
        fault(2, "^raill length 9;");
        fault(2, "^railllll length 9;");
        fault(1, "^railaaaaa length 9;");
        fault(2, "rail l ^lengthy 9;");
        fault(2, "^ra il l length 9;");
        fault(2, "rail l ^le ngth 9;");
        fault(2, "law 1 ^2;");
        fault(2, "law ^manya;");
        fault(2, "law many ^many;");
        fault(2, "law 1 < ^= 2;");
        fault(2, "law 1 ^andor 1;");
        fault(2, "neck 1;^; ");
        fault(2, "rail l^2 length 9;");
        fault(2, "rail ^2 length 9;");
    }

    private static void standingWords() {
        part("Words that stand for themselves here are no NAMES");
        for (String word : WORDS) {
            fault(2, "rail ^" + word + " length 9;");
            fault(2, R + "house ^" + word + " length 1 weight 1 on l;");
            fault(2, R + "house a length 1 weight 1 on ^" + word + ";");
            fault(2, ABC + "beside ^" + word + " a worth 1;");
            fault(2, ABC + "beside a ^" + word + " worth 1;");
            fault(2, ABC + "law takes ^" + word + ";");
            String longer = word + "s";
            town(1, "rail " + longer + " length 9;house " + longer + " length 1 weight 1 on " + longer
                    + ";law takes " + longer + ";");
            String shorter = word.substring(0, word.length() - 1);
            town(0, "rail " + shorter + " length 9;law 1;");
        }
    }

    private static String rails(int many) {
        StringBuilder text = new StringBuilder();
        for (int i = 0; i < many; i++) {
            text.append("rail ").append((char) ('a' + i)).append(" length 9;");
        }
        return text.toString();
    }

    private static String houses(int many) {
        StringBuilder text = new StringBuilder(rails(1));
        for (int i = 0; i < many; i++) {
            text.append("house ").append((char) ('a' + i)).append(" length 1 weight 1 on a;");
        }
        return text.toString();
    }

    private static String pairs(int many) {
        StringBuilder text = new StringBuilder(houses(8));
        for (int i = 0, told = 0; i < 64 && told < many; i++) {
            if (i / 8 > i % 8) {
                text.append("beside ").append((char) ('a' + i / 8)).append(' ')
                        .append((char) ('a' + i % 8)).append(" worth ").append(i).append(';');
                told++;
            }
        }
        return text.toString();
    }

    private static void counts() {
        part("At most 5 RAILS, 8 HOUSES, 20 beside lines, neck, draws, law once each;"
                + " one of a sort too many or a second time: 2 at the line's first word");
        String[] tooMany = {"%s f length 9;", "%s a length 9;", "%s", "%s $", "%s f length 0;",
            "%s 99999 1;"};
        for (String rest : tooMany) {
            fault(2, rails(5) + "^" + rest.replace("%s", "rail"));
            fault(2, houses(8) + "^" + rest.replace("%s", "house"));
            fault(2, pairs(20) + " ^" + rest.replace("%s", "beside"));
            fault(2, "neck 1;\n^" + rest.replace("%s", "neck"));
            fault(2, "draws 1;^" + rest.replace("%s", "draws"));
            fault(2, "law 1;^" + rest.replace("%s", "law"));
        }
        town(0, rails(5));
        town(8, houses(8));
        town(8, pairs(20));
        town(8, pairs(20) + "rail b length 9;rail c length 9;rail d length 9;rail e length 9;neck 1;"
                + "draws 1;law 1;");
        fault(2, pairs(20) + "neck 1;draws 1;law 1;^beside h g worth 1;");
        fault(2, "law 1;neck 1;draws 1;^neck 2;draws 2;");
        fault(2, "law 1;neck 999;draws 1;^draws 2;law 2;");
        town(0, "neck 1;rail l length 9;draws 1;rail s length 9;law 1;");
    }

    private static void amount(String ahead, String behind, int least, int most, int houses) {
        town(houses, ahead + least + behind);
        town(houses, ahead + most + behind);
        fault(4, ahead + "^" + (most + 1) + behind);
        fault(4, ahead + "^9999" + behind);
        if (least > 0) {
            fault(4, ahead + "^" + (least - 1) + behind);
            fault(4, ahead + "^0000" + behind);
        }
    }

    private static void amounts() {
        part("RAILS (length 1 .. 99), HOUSES (length 1 .. 9, weight 1 .. 99),"
                + " neck, draws (1 .. 999): 4 a number that can't be");
        amount("rail l length ", ";", 1, 99, 0);
        amount("rail l length 1;rail m length ", ";", 1, 99, 0);
        amount(R + "house a length ", " weight 1 on l;", 1, 9, 1);
        amount(R + "house a length 1 weight ", " on l;", 1, 99, 1);
        amount(ABC + "house d length ", " weight 1 on l;", 1, 9, 4);
        amount(ABC + "beside a b worth ", ";", 0, 99, 3);
        amount("neck ", ";", 1, 999, 0);
        amount("draws ", ";", 1, 999, 0);
        town(0, "law 0;");
        town(0, "law 9999;");
        town(0, "law 0000;");
    }

    private static void signedAmounts() {
        part("V -99 .. 99; of V its place is that of its sign, if it has one");
        String ahead = ABC + "beside a b worth ";
        for (String sign : new String[] {"-", "- ", "-\n", "-  \n "}) {
            town(3, ahead + sign + "99;");
            town(3, ahead + sign + "0;");
            town(3, ahead + sign + "0099;");
            fault(4, ahead + "^" + sign + "100;");
            fault(4, ahead + " ^" + sign + "9999;");
            fault(1, ahead + sign + "^10000;");
            fault(1, ahead + sign + "^99a;");
            fault(2, ahead + sign + "^;");
            fault(2, ahead + sign + "^a;");
            fault(2, ahead + sign + "^-1;");
            fault(2, ahead + sign + "^+1;");
            fault(2, ahead + sign + "^");
            fault(4, ahead + "^" + sign + "100 1;");
            fault(2, ahead + sign + "99 ^1;");
        }
        fault(2, ahead + "^+1;");
        fault(4, ahead + "^100;");
        fault(4, ahead + " \n ^100;");
        int[] worths = {-99, -1, 0, 1, 99};
        for (int worth : worths) {
            CHECKS.due("worth() of " + worth, Checks.told(ahead + worth + ";").worth(), worth);
        }
    }

    private static void names() {
        part("3 a NAME told already (of RAILS; of HOUSES); 5 a NAME that no RAIL, no HOUSE has;"
                + " on a RAIL told ahead; a law's NAMES are HOUSES told ahead");
        for (int i = 0; i < 4; i++) {
            fault(3, rails(4) + "rail ^" + (char) ('a' + i) + " length 9;");
            town(0, rails(4) + "rail e length 9;");
        }
        for (int i = 0; i < 7; i++) {
            fault(3, houses(7) + "house ^" + (char) ('a' + i) + " length 1 weight 1 on a;");
            town(7, houses(7) + "law takes " + (char) ('a' + i) + ";");
        }
        fault(5, houses(7) + "law takes ^h;house h length 1 weight 1 on a;");
        fault(5, "law takes ^a;" + houses(1));
        fault(5, "house a length 1 weight 1 on ^a;" + rails(1));
        fault(5, rails(4) + "house a length 1 weight 1 on ^e;rail e length 9;");
        for (int i = 0; i < 5; i++) {
            char rail = (char) ('a' + i);
            String text = rails(5) + "house z length 1 weight 1 on " + rail + ";";
            CHECKS.due("where(0, 0)", Checks.told(text).where(0, 0), i);
            fault(5, text + "beside ^" + rail + " z worth 1;");
        }
        fault(3, "rail l length 9;rail ^l length 0;");
        fault(3, R + "house a length 1 weight 1 on l;house ^a length 0 weight 1 on l;");
        fault(4, R + "house a length ^0 weight 1 on z;");
    }

    private static void besides() {
        part("two unlike HOUSES told ahead; each two once; 3 a HOUSE beside itself,"
                + " two told already (either way about: at the second NAME)");
        String four = ABC + "house d length 1 weight 1 on l;";
        for (char one = 'a'; one <= 'd'; one++) {
            for (char other = 'a'; other <= 'd'; other++) {
                if (one == other) {
                    fault(3, four + "beside " + one + " ^" + one + " worth 1;");
                    fault(3, four + "beside " + one + " ^" + one + " worth");
                    continue;
                }
                String two = four + "beside " + one + ' ' + other + " worth 0;";
                town(4, two);
                fault(3, two + "beside " + one + " ^" + other + " worth 0;");
                fault(3, two + "beside " + other + " ^" + one + " worth 5;");
                fault(3, two + "beside " + other + "\n ^" + one + " 100");
                for (char third = 'a'; third <= 'd'; third++) {
                    if (third != one && third != other) {
                        town(4, two + "beside " + one + ' ' + third + " worth 0;");
                        town(4, two + "beside " + third + ' ' + other + " worth 0;");
                    }
                }
            }
        }
        fault(5, ABC + "beside ^d a worth 1;");
        fault(5, ABC + "beside a ^d worth 1;");
        fault(5, ABC + "beside ^d d worth 1;");
        fault(5, ABC + "beside a ^d worth 1;house d length 1 weight 1 on l;");
        fault(5, "beside ^a b worth 1;" + ABC);
    }

    private static void room() {
        part("6 a HOUSE for which there is no room (at the ; behind it)");
        for (int length = 1; length <= 12; length++) {
            for (int house = 1; house <= 9; house++) {
                String text = "rail s length 9;rail l length " + length + ";house a length " + house
                        + " weight 1 on l";
                if (house <= length) {
                    town(1, text + ";");
                } else {
                    fault(6, text + "^;");
                    fault(6, text + " \n ^;");
                    fault(2, text + "^");
                    fault(2, text + "^)");
                    fault(2, text + " ^l;");
                    fault(1, text + " ^!;");
                    fault(1, text + " ^12345;");
                }
            }
        }
        String full = rails(2);
        for (int i = 0; i < 4; i++) {
            full += "house " + (char) ('a' + i) + " length 2 weight 1 on b;";
        }
        town(5, full + "house e length 1 weight 1 on b;");
        fault(6, full + "house e length 2 weight 1 on b^;");
        town(5, full + "house e length 2 weight 1 on a;");
        town(6, full + "house e length 1 weight 1 on b;house f length 9 weight 1 on a;");
        fault(6, full + "house e length 1 weight 1 on b;house f length 1 weight 1 on b^;");
    }

    private static void units() {
        part("40 units in all; a 41st unit: 2 at its first TOKEN");
        String[] kinds = {"1", "many", "weight", "length", "from", "to", "room", "takes a", "(1)"};
        for (String kind : kinds) {
            int each = kind.equals("(1)") ? 2 : 1;
            String at40 = kind + (" + " + kind).repeat(40 / each - 1);
            town(3, ABC + "law " + at40 + ";");
            CHECKS.due("about(9)", Checks.told(ABC + "law " + at40 + ";").about(9), 40);
            for (String next : kinds) {
                for (String sign : new String[] {" + ", " - ", "*", "/", " < ", " > ", "=", " and ",
                    " or ", " and not ", " or not "}) {
                    fault(2, ABC + "law " + at40 + sign + "^" + next + ";");
                }
            }
            fault(2, ABC + "law " + at40 + " + ^takes zz;");
            fault(2, ABC + "law " + at40 + " + ^takes");
            fault(2, ABC + "law " + at40 + " + ^(((((((((1;");
            fault(1, ABC + "law " + at40 + " + ^$;");
            fault(2, ABC + "law " + at40 + " + ^;");
            fault(2, ABC + "law " + at40 + " + ^");
            fault(2, ABC + "law " + at40 + " + ^rail s length 9;");
            fault(2, ABC + "law " + at40 + " ^1;");
        }
        String at39 = "1" + "+1".repeat(38);
        town(0, "law " + at39 + "+1;");
        fault(2, "law " + at39 + "+(^1);");
        fault(2, "law " + at39 + "+(^(1));");
        fault(2, "law " + at39 + "+(not ^1);");
        fault(2, "law (" + "1" + "+1".repeat(38) + "+^1);");
        fault(2, "law (" + "1" + "+1".repeat(38) + "+^);");
        town(0, "law (" + "1" + "+1".repeat(38) + ");");
        CHECKS.due("about(9) of 1", Checks.told("law 1;").about(9), 1);
        CHECKS.due("about(9): not is none", Checks.told("law not not 1;").about(9), 1);
        CHECKS.due("about(9): takes a is one", Checks.told(ABC + "law takes a;").about(9), 1);
        CHECKS.due("about(9): ( e ), too", Checks.told("law (1 < (2));").about(9), 4);
    }

    private static void depths() {
        part("a unit ( e ), or a one behind not, within 6 others at most;"
                + " what is within 7 others: 2 at its first TOKEN, or the not");
        for (int shape = 0; shape < 128; shape++) {
            StringBuilder ahead = new StringBuilder("law ");
            StringBuilder behind = new StringBuilder();
            for (int i = 0; i < 7; i++) {
                boolean isNot = (shape >> i & 1) != 0;
                ahead.append(isNot ? "not " : "( ");
                behind.append(isNot ? "" : ")");
            }
            String within = ahead.toString();
            town(0, within + "1" + behind + ";");
            town(0, within + "1 < many + 2 * room" + behind + ";");
            fault(2, within + "^(1)" + behind + ";");
            fault(2, within + "^not 1" + behind + ";");
            fault(2, within + "1 < ^(1)" + behind + ";");
            fault(2, within + "1 + ^(1)" + behind + ";");
            fault(2, within + "1 * ^(1)" + behind + ";");
        }
        part("a one behind not ends ahead of and, or, )");
        String seven = "(((((((1)))))))";
        town(0, "law not 1 and " + seven + ";");
        town(0, "law not 1 or " + seven + ";");
        town(0, "law not not not 1 and not not not not not not not 1;");
        town(0, "law " + seven + " and not 1 or " + seven + " + " + seven + " < " + seven + ";");
        fault(2, "law not 1 < ((((((^(1)))))));");
        fault(2, "law not 1 + ((((((^(1)))))));");
        town(0, "law not 1 < ((((((1))))));");
        town(0, "law (not 1) + ((((((1))))));");
        fault(2, "law (not 1 and ((((((^(1))))))));");
        fault(2, "law (not 1 and not not not not not not ^not 1);");
        town(0, "law (not 1 and not not not not not not 1);");
    }

    private static void firstByPlace() {
        part("FAULTS, the first by its place");
        String[] faults = {"rail ^zzzzzzzzz length 9;", "rail ^9 length 9;", "rail ^l length 9;",
            "rail q length ^0;", "house q length 1 weight 1 on ^q;",
            "house q length 9 weight 1 on tiny^;", "beside a ^a worth 1;", "beside a b worth ^-100;",
            "neck 1;^neck 1;", "law 1 ^1;"};
        int[] kinds = {1, 2, 3, 4, 5, 6, 3, 4, 2, 2};
        String all = ABC + "rail tiny length 8;";
        for (int i = 0; i < faults.length; i++) {
            fault(kinds[i], all + faults[i]);
            for (String later : faults) {
                fault(kinds[i], all + faults[i] + later.replace("^", ""));
                fault(kinds[i], all + faults[i] + "$" + later.replace("^", ""));
            }
        }
    }

    private static void leastAtOnePlace() {
        part("at one place the least");
        fault(1, "rail ^! length 9;");
        fault(1, R + "house a length ^12345 weight 1 on l;");
        fault(1, "rail s length 1;house a length 2 weight 1 on s^!");
        fault(1, "rail s length 1;house a length 2 weight 1 on s ^abcdefghi;");
        fault(2, "rail s length 1;house a length 2 weight 1 on s^(");
        fault(2, "rail s length 1;house a length 2 weight 1 on s^");
        fault(6, "rail s length 1;house a length 2 weight 1 on s^;;");
        fault(2, "rail l length 9 ^1000;");
        fault(1, rails(5) + "^abcdefghi;");
        fault(1, "law " + "1+".repeat(40) + "^1a;");
        fault(1, "law " + "(".repeat(7) + "^1a;");
        fault(2, "law " + "(".repeat(7) + "^(1a;");
    }

    private static void ends() {
        part("2 one that can't stand there (the end: the text's length)");
        String[] open = {"rail", "rail l", "rail l length", "rail l length 9", R + "house",
            R + "house a", R + "house a length", R + "house a length 1", R + "house a length 1 weight",
            R + "house a length 1 weight 1", R + "house a length 1 weight 1 on",
            R + "house a length 1 weight 1 on l", ABC + "beside", ABC + "beside a", ABC + "beside a b",
            ABC + "beside a b worth", ABC + "beside a b worth -", ABC + "beside a b worth 1", "neck",
            "neck 1", "draws", "draws 1", "law", "law 1", "law 1 +", "law 1 <", "law 1 and", "law 1 or",
            "law not", "law (", "law (1", ABC + "law takes", ABC + "law takes a", "law 1 < 2"};
        for (String text : open) {
            fault(2, text + "^");
            fault(2, text + " ^");
            fault(2, text + "\n \n^");
        }
        town(0, "");
        town(0, " ");
        town(0, "\n");
    }

    private static void value(int want, String law) {
        RailHouses x = Checks.told("rail l length 9;rail s length 8;house a length 1 weight 5 on l;"
                + "house b length 2 weight 7 on l;house c length 3 weight 11 on s;law " + law + ";");
        CHECKS.due("asked(0, 2, 1) by " + law, x.asked(0, 2, 1), want);
        CHECKS.due("lawful(0, 2, 1) by " + law, x.lawful(0, 2, 1), want == 0 ? 0 : 1);
    }

    private static void values() {
        part("ints, wrapping");
        String least = "(0-2048*1024*1024)";
        value(Integer.MIN_VALUE, least);
        value(Integer.MAX_VALUE, least + "-1");
        value(Integer.MIN_VALUE, "(" + least + "-1)+1");
        value(0, least + "+" + least);
        value(0, "2048*2048*1024");
        value(1410065408, "1000*1000*1000*10");
        value(Integer.MIN_VALUE, "0-" + least);
        value(1, least + "<0");
        value(0, least + "-1<0");
        value(1, "0>" + least);
        value(1, "not " + least + "<" + least);
        part("40 units, each within 7 nots");
        String odd = "not ".repeat(7);
        value(1, odd + "0" + (" and " + odd + "0").repeat(39));
        value(0, odd + "0" + (" and " + odd + "0").repeat(38) + " and " + odd + "1");
        value(0, odd + "1" + (" or " + odd + "1").repeat(39));
        value(1, odd + "1" + (" or " + odd + "1").repeat(38) + " or " + odd + "0");
        part("/ cut, by 0: 0");
        value(Integer.MIN_VALUE, least + "/(0-1)");
        value(0, "1/0");
        value(0, "0/0");
        value(0, least + "/0");
        value(0, "5/(many-2)");
        value(2, "5/2");
        value(-2, "(0-5)/2");
        value(-2, "5/(0-2)");
        value(2, "(0-5)/(0-2)");
        value(0, "(0-1)/2");
        value(0, "1/" + least);
        value(1, least + "/" + least);
        part("relations, and, or, not are 1 or 0, of what is not 0");
        value(1, "0-1 and 0-1");
        value(1, "2 and 4");
        value(1, least + " and 256*256");
        value(1, "2 or 0");
        value(1, "0 or 0-1");
        value(0, "not (0-1)");
        value(0, "not 2");
        value(1, "not 0");
        value(0, "not not 0");
        value(1, "not not 9");
        value(0, "(2 and 4) = 2");
        value(3, "(1 < 2) + (2 > 1) + (3 = 3)");
        value(0, "(2 < 1) + (1 > 2) + (3 = 4) + (1 < 1) + (1 > 1)");
    }

    /** Every text that is a good one but for one byte, against the model's reader. */
    private static void oneByteOff() {
        part("one byte left out, put in, or changed");
        String[] texts = {"rail l length 9;rail s length 5;house a length 2 weight 4 on l;"
                + "house b length 2 weight 3 on s;beside a b worth -99;neck 9;draws 99;",
            R + "house a length 1 weight 1 on l;"
                + "law not (takes a + 2) * 3 < 4 / many and room = 0 or 1;"};
        String others = " \n;()<>=+-*/09az$A";
        for (String text : texts) {
            for (int at = 0; at < text.length(); at++) {
                String ahead = text.substring(0, at);
                String behind = text.substring(at + 1);
                likeModel(ahead + behind);
                for (int i = 0; i < others.length(); i++) {
                    likeModel(ahead + others.charAt(i) + behind);
                    likeModel(ahead + others.charAt(i) + text.charAt(at) + behind);
                }
            }
        }
    }

    private static void likeModel(String text) {
        int kind = 0;
        int place = -1;
        try {
            new ModelText(text.getBytes(StandardCharsets.ISO_8859_1)).town();
        } catch (ModelText.Fault fault) {
            kind = fault.kind;
            place = fault.place;
        }
        RailHouses x = new RailHouses();
        Checks.feed(x, text);
        x.town();
        CHECKS.due("fault(0) of " + text, x.fault(0), kind);
        CHECKS.due("fault(1) of " + text, x.fault(1), place);
    }
}
