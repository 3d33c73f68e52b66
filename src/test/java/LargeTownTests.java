import java.util.ArrayList;
import java.util.Collections;
import java.util.Comparator;
import java.util.HashSet;
import java.util.List;
import java.util.PriorityQueue;
import java.util.Random;
import java.util.Set;
import java.util.function.Predicate;

/**
 * Searches in random towns of up to 6 houses and 4 rails, for which the Model is too slow: compared
 * with a queue that takes whole rows of pulls in the document's own order.
 */
public final class LargeTownTests {
    private static final Checks CHECKS = new Checks();
    private static final int TOWNS = 40;

    private interface Law {
        boolean allows(String drawn, int from, int to, int room, int weight, int length);
    }

    private static final String[] LAW_TEXTS = {"", "law many = 1;", "law many < 3 or takes a;",
        "law not (from = 1 and to = 2) and room - length < 7;",
        "law weight / many > 3 or from > to;"};
    private static final List<Law> LAWS = List.of((drawn, from, to, room, weight, length) -> true,
            (drawn, from, to, room, weight, length) -> drawn.length() == 1,
            (drawn, from, to, room, weight, length) -> drawn.length() < 3 || drawn.contains("a"),
            (drawn, from, to, room, weight, length) -> !(from == 1 && to == 2) && room - length < 7,
            (drawn, from, to, room, weight, length) -> weight / drawn.length() > 3 || from > to);

    /** How houses stand, a text of their names for each rail, and the row of pulls behind which. */
    private record Way(List<String> rails, int weight, List<Integer> row) {
        static int inOrder(Way one, Way other) {
            int by = Integer.compare(one.row.size(), other.row.size());
            for (int i = 0; i < one.row.size() && by == 0; i++) {
                by = Integer.compare(one.row.get(i), other.row.get(i));
            }
            return by;
        }
    }

    private final Random random;
    private final int houses;
    private final int[] lengths;
    private final int[] weights;
    private final int[] railLengths;
    private final int[][] worths;
    private final StringBuilder text = new StringBuilder();
    private int neck = 999;
    private int draws = 999;
    private Law law;
    private List<String> standing = new ArrayList<>();

    public static void main(String[] args) {
        int towns = args.length > 0 ? Integer.parseInt(args[0]) : TOWNS;
        int first = args.length > 1 ? Integer.parseInt(args[1]) : 0;
        for (int town = first; town < first + towns; town++) {
            new LargeTownTests(town).compare();
        }
        CHECKS.close();
    }

    private LargeTownTests(int number) {
        random = new Random(number);
        houses = 4 + random.nextInt(3);
        lengths = new int[houses];
        weights = new int[houses];
        railLengths = new int[2 + random.nextInt(3)];
        worths = new int[houses][houses];
        tellTown();
    }

    private static char name(int number) {
        return (char) ('a' + number);
    }

    private void tellTown() {
        int sum = 0;
        for (int house = 0; house < houses; house++) {
            lengths[house] = 1 + random.nextInt(3);
            weights[house] = random.nextInt(3) == 0 ? 99 : 1 + random.nextInt(random.nextBoolean() ? 3 : 30);
            sum += lengths[house];
        }
        for (int rail = 0; rail < railLengths.length; rail++) {
            railLengths[rail] = rail == 0 ? sum + random.nextInt(3) : 2 + random.nextInt(sum);
            text.append("rail ").append(name(rail)).append(" length ").append(railLengths[rail]).append(';');
            standing.add("");
        }
        for (int house = 0; house < houses; house++) {
            text.append("house ").append(name(house)).append(" length ").append(lengths[house])
                    .append(" weight ").append(weights[house]).append(" on a;");
            standing.set(0, standing.get(0) + name(house));
        }
        tellWorths();
        if (random.nextInt(4) == 0) {
            neck = 3 + random.nextInt(6);
            text.append("neck ").append(neck).append(';');
        }
        if (random.nextInt(4) == 0) {
            draws = 99 + random.nextInt(99);
            text.append("draws ").append(draws).append(';');
        }
        int which = random.nextInt(LAW_TEXTS.length);
        text.append(LAW_TEXTS[which]);
        law = LAWS.get(which);
    }

    private void tellWorths() {
        for (int one = 0; one < houses; one++) {
            for (int other = 0; other < one; other++) {
                if (random.nextInt(3) == 0) {
                    int worth = random.nextInt(199) - 99;
                    worths[one][other] = worth;
                    worths[other][one] = worth;
                    text.append("beside ").append(name(one)).append(' ').append(name(other))
                            .append(" worth ").append(worth).append(';');
                }
            }
        }
    }

    private int sum(int[] what, String row) {
        int sum = 0;
        for (char house : row.toCharArray()) {
            sum += what[house - 'a'];
        }
        return sum;
    }

    private List<Way> nexts(Way way) {
        List<Way> nexts = new ArrayList<>();
        for (int from = 0; from < railLengths.length; from++) {
            String row = way.rails.get(from);
            for (int many = 1; many <= row.length(); many++) {
                for (int to = 0; to < railLengths.length; to++) {
                    if (to != from && isLawful(way, from, row.substring(row.length() - many), to)) {
                        nexts.add(behind(way, from, many, to));
                    }
                }
            }
        }
        return nexts;
    }

    private boolean isLawful(Way way, int from, String drawn, int to) {
        int length = sum(lengths, drawn);
        int weight = sum(weights, drawn);
        int room = railLengths[to] - sum(lengths, way.rails.get(to));
        return length <= neck && weight <= draws && length <= room
                && law.allows(drawn, from, to, room, weight, length);
    }

    private Way behind(Way way, int from, int many, int to) {
        String row = way.rails.get(from);
        String drawn = row.substring(row.length() - many);
        List<String> rails = new ArrayList<>(way.rails);
        rails.set(from, row.substring(0, row.length() - many));
        rails.set(to, rails.get(to) + drawn);
        List<Integer> codes = new ArrayList<>(way.row);
        codes.add(100 * from + 10 * many + to);
        return new Way(rails, way.weight + sum(weights, drawn), codes);
    }

    private int worth(Way way) {
        String line = way.rails.get(0);
        int worth = 0;
        for (int i = 1; i < line.length(); i++) {
            worth += worths[line.charAt(i - 1) - 'a'][line.charAt(i) - 'a'];
        }
        return worth;
    }

    /** The first way, in their order, at which it is so; null if there is none. */
    private Way first(Predicate<Way> isSo, Comparator<Way> order) {
        PriorityQueue<Way> queue = new PriorityQueue<>(order);
        Set<List<String>> taken = new HashSet<>();
        queue.add(new Way(standing, 0, List.of()));
        while (!queue.isEmpty()) {
            Way way = queue.poll();
            if (taken.add(way.rails)) {
                if (isSo.test(way)) {
                    return way;
                }
                queue.addAll(nexts(way));
            }
        }
        return null;
    }

    private Way richest(int most) {
        List<Way> best = new ArrayList<>();
        first(way -> {
            boolean isWithin = way.row.size() <= most;
            if (isWithin && (best.isEmpty() || worth(way) > worth(best.get(0)))) {
                best.clear();
                best.add(way);
            }
            return !isWithin;
        }, Way::inOrder);
        return best.get(0);
    }

    private void due(String call, long got, long want) {
        CHECKS.due(call, got, want);
    }

    private void dueWay(String call, RailHouses x, int got, Way want, int answer) {
        due(call, got, want == null ? -1 : answer);
        int[] codes = new int[want == null ? 0 : want.row.size()];
        for (int i = 0; i < codes.length; i++) {
            codes[i] = want.row.get(i);
        }
        CHECKS.dueRow(x, codes);
    }

    private static int pulls(Way way) {
        return way == null ? -1 : way.row.size();
    }

    private void compare() {
        CHECKS.part(text.toString());
        RailHouses x = Checks.told(text.toString());
        for (int i = random.nextInt(6); i > 0; i--) {
            List<Way> nexts = nexts(new Way(standing, 0, List.of()));
            if (!nexts.isEmpty()) {
                Way way = nexts.get(random.nextInt(nexts.size()));
                int code = way.row.get(0);
                due("pull " + code, x.pull(code / 100, code / 10 % 10, code % 10), way.weight);
                standing = way.rails;
            }
        }
        Predicate<Way> isGoal = goal(x);
        Way fewest = first(isGoal, Way::inOrder);
        dueWay("fewest", x, x.fewest(), fewest, pulls(fewest));
        Way least = first(isGoal, Comparator.comparingInt(Way::weight).thenComparing(Way::inOrder));
        dueWay("least", x, x.least(), least, least == null ? -1 : least.weight);
        int house = random.nextInt(houses);
        Way free = first(way -> way.rails.contains("" + name(house)), Way::inOrder);
        dueWay("free " + house, x, x.free(house), free, pulls(free));
        int most = random.nextInt(31);
        Way richest = richest(most);
        dueWay("richest " + most, x, x.richest(most), richest, worth(richest));
        spare(x, isGoal);
    }

    private Predicate<Way> goal(RailHouses x) {
        List<Integer> all = new ArrayList<>();
        for (int house = 0; house < houses; house++) {
            all.add(house);
        }
        Collections.shuffle(all, random);
        StringBuilder row = new StringBuilder();
        for (int i = random.nextInt(houses); i >= 0; i--) {
            row.append(name(all.get(i)));
            x.goal(all.get(i));
        }
        String begins = row.toString();
        return way -> way.rails.get(0).startsWith(begins);
    }

    private void spare(RailHouses x, Predicate<Way> isGoal) {
        int by = 1 + random.nextInt(12);
        int best = -1;
        int fewest = -1;
        for (int rail = 0; rail < railLengths.length; rail++) {
            railLengths[rail] += by;
            int pulls = pulls(first(isGoal, Way::inOrder));
            railLengths[rail] -= by;
            if (pulls >= 0 && (fewest < 0 || pulls < fewest)) {
                best = rail;
                fewest = pulls;
            }
        }
        due("spare " + by + " 0", x.spare(by, 0), best);
        due("spare " + by + " 1", x.spare(by, 1), fewest);
    }
}
