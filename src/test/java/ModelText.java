import java.util.ArrayList;
import java.util.List;
import java.util.Set;
import java.util.TreeMap;
import java.util.regex.Matcher;
import java.util.regex.Pattern;
import java.nio.charset.StandardCharsets;

/** The model's reader of a town's text: all tokens first, then the grammar over them. */
final class ModelText {
    static final class Fault extends Exception {
        private static final long serialVersionUID = 1;
        final int kind;
        final int place;

        Fault(int kind, int place) {
            this.kind = kind;
            this.place = place;
        }
    }

    record Asked(List<Integer> drawn, int from, int to, int length, int weight, int room) { }

    interface Node {
        int value(Asked asked);
    }

    private record Token(String text, int place, boolean bad) { }

    private static final Set<String> WORDS = Set.of("rail", "house", "beside", "neck", "draws",
            "law", "length", "weight", "on", "worth", "or", "and", "not", "many", "from", "to",
            "room", "takes");
    private static final Pattern TOKEN =
            Pattern.compile("([a-z]+)|([0-9]+)([a-z]?)|([;()<>=+*/-])|(.)", Pattern.DOTALL);

    private final List<Token> tokens = new ArrayList<>();
    private int next;
    private final Model.Town town = new Model.Town();
    private final List<String> rails = new ArrayList<>();
    private final List<String> houses = new ArrayList<>();
    private final TreeMap<String, Boolean> once = new TreeMap<>();

    ModelText(byte[] bytes) {
        String text = new String(bytes, StandardCharsets.ISO_8859_1);
        int at = 0;
        Matcher matcher = TOKEN.matcher(text);
        while (at < text.length()) {
            if (text.charAt(at) == ' ' || text.charAt(at) == '\n') {
                at++;
                continue;
            }
            matcher.region(at, text.length());
            matcher.lookingAt();
            boolean bad = matcher.group(5) != null
                    || matcher.group(1) != null && matcher.group(1).length() > 8
                    || matcher.group(2) != null
                    && (matcher.group(2).length() > 4 || !matcher.group(3).isEmpty());
            tokens.add(new Token(matcher.group(), at, bad));
            at = matcher.end();
        }
        tokens.add(new Token("", text.length(), false));
    }

    private Token peek() {
        return tokens.get(next);
    }

    private boolean is(String text) {
        return peek().text.equals(text);
    }

    private Fault refused() {
        return new Fault(peek().bad ? 1 : 2, peek().place);
    }

    private void take(String text) throws Fault {
        if (!is(text)) {
            throw refused();
        }
        next++;
    }

    private String name() throws Fault {
        String text = peek().text;
        if (peek().bad || !text.matches("[a-z]+") || WORDS.contains(text)) {
            throw refused();
        }
        next++;
        return text;
    }

    private int number(int least, int most, int place) throws Fault {
        if (peek().bad || !peek().text.matches("[0-9]+")) {
            throw refused();
        }
        int number = Integer.parseInt(peek().text);
        if (number < least || number > most) {
            throw new Fault(4, place);
        }
        next++;
        return number;
    }

    private String newName(List<String> names) throws Fault {
        int place = peek().place;
        String name = name();
        if (names.contains(name)) {
            throw new Fault(3, place);
        }
        return name;
    }

    private int told(List<String> names) throws Fault {
        int place = peek().place;
        String name = name();
        if (!names.contains(name)) {
            throw new Fault(5, place);
        }
        return names.indexOf(name);
    }

    Model.Town town() throws Fault {
        while (!is("")) {
            line();
        }
        return town;
    }

    private void line() throws Fault {
        String word = peek().text;
        if (!Set.of("rail", "house", "beside", "neck", "draws", "law").contains(word)
                || word.equals("rail") && rails.size() == 5
                || word.equals("house") && houses.size() == 8
                || word.equals("beside") && town.besides.size() == 20
                || once.containsKey(word)) {
            throw refused();
        }
        next++;
        switch (word) {
            case "rail" -> rail();
            case "house" -> house();
            case "beside" -> beside();
            case "law" -> {
                once.put(word, true);
                town.law = either(0);
                take(";");
            }
            default -> {
                once.put(word, true);
                int number = number(1, 999, peek().place);
                if (word.equals("neck")) {
                    town.neck = number;
                } else {
                    town.draws = number;
                }
                take(";");
            }
        }
    }

    private void rail() throws Fault {
        String name = newName(rails);
        take("length");
        int length = number(1, 99, peek().place);
        take(";");
        rails.add(name);
        town.railLengths.add(length);
        town.rows.add(new ArrayList<>());
    }

    private void house() throws Fault {
        String name = newName(houses);
        take("length");
        int length = number(1, 9, peek().place);
        take("weight");
        int weight = number(1, 99, peek().place);
        take("on");
        int rail = told(rails);
        int place = peek().place;
        take(";");
        int room = town.railLengths.get(rail);
        for (int house : town.rows.get(rail)) {
            room -= town.houses.get(house)[0];
        }
        if (room < length) {
            throw new Fault(6, place);
        }
        town.rows.get(rail).add(houses.size());
        houses.add(name);
        town.houses.add(new int[] {length, weight});
    }

    private void beside() throws Fault {
        int one = told(houses);
        int place = peek().place;
        int other = told(houses);
        for (Model.Beside beside : town.besides) {
            if (beside.one() == one && beside.other() == other
                    || beside.one() == other && beside.other() == one) {
                throw new Fault(3, place);
            }
        }
        if (one == other) {
            throw new Fault(3, place);
        }
        take("worth");
        int sign = peek().place;
        boolean negative = is("-");
        if (negative) {
            next++;
        }
        int worth = number(0, 99, sign);
        take(";");
        town.besides.add(new Model.Beside(one, other, negative ? -worth : worth));
    }

    private Node either(int within) throws Fault {
        Node node = both(within);
        while (is("or")) {
            next++;
            Node one = node;
            Node other = both(within);
            node = a -> one.value(a) != 0 | other.value(a) != 0 ? 1 : 0;
        }
        return node;
    }

    private Node both(int within) throws Fault {
        Node node = one(within);
        while (is("and")) {
            next++;
            Node one = node;
            Node other = one(within);
            node = a -> one.value(a) != 0 & other.value(a) != 0 ? 1 : 0;
        }
        return node;
    }

    private Node one(int within) throws Fault {
        if (is("not")) {
            if (within > 6) {
                throw refused();
            }
            next++;
            Node node = one(within + 1);
            return a -> node.value(a) != 0 ? 0 : 1;
        }
        Node one = sum(within);
        String sign = peek().text;
        if (!Set.of("<", ">", "=").contains(sign)) {
            return one;
        }
        next++;
        Node other = sum(within);
        switch (sign) {
            case "<": return a -> one.value(a) < other.value(a) ? 1 : 0;
            case ">": return a -> one.value(a) > other.value(a) ? 1 : 0;
            default: return a -> one.value(a) == other.value(a) ? 1 : 0;
        }
    }

    private Node sum(int within) throws Fault {
        Node node = term(within);
        while (is("+") || is("-")) {
            boolean plus = is("+");
            next++;
            Node one = node;
            Node other = term(within);
            node = plus ? a -> one.value(a) + other.value(a) : a -> one.value(a) - other.value(a);
        }
        return node;
    }

    private Node term(int within) throws Fault {
        Node node = unit(within);
        while (is("*") || is("/")) {
            boolean times = is("*");
            next++;
            Node one = node;
            Node other = unit(within);
            node = times ? a -> one.value(a) * other.value(a) : a -> {
                int by = other.value(a);
                return by == 0 ? 0 : one.value(a) / by;
            };
        }
        return node;
    }

    private Node unit(int within) throws Fault {
        if (town.units == 40) {
            throw refused();
        }
        if (!peek().bad && peek().text.matches("[0-9]+")) {
            int number = number(0, 9999, 0);
            town.units++;
            return a -> number;
        }
        String text = peek().text;
        if (!Set.of("many", "weight", "length", "from", "to", "room", "takes", "(").contains(text)
                || text.equals("(") && within > 6) {
            throw refused();
        }
        next++;
        town.units++;
        switch (text) {
            case "many": return a -> a.drawn.size();
            case "weight": return Asked::weight;
            case "length": return Asked::length;
            case "from": return Asked::from;
            case "to": return Asked::to;
            case "room": return Asked::room;
            case "takes": {
                int house = told(houses);
                return a -> a.drawn.contains(house) ? 1 : 0;
            }
            default: {
                Node inner = either(within + 1);
                take(")");
                return inner;
            }
        }
    }
}
