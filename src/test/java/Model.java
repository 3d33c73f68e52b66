import java.util.ArrayDeque;
import java.util.ArrayList;
import java.util.HashMap;
import java.util.LinkedHashMap;
import java.util.List;
import java.util.Map;
import java.util.function.Predicate;

/**
 * The document told a second time, slowly and another way: lists for rails, a tree for the law,
 * whole graphs and distances to the sought states for searches. RandomRuns compares with it.
 */
final class Model {
    static final int NONE = -1;
    static final int GAP = -1000000;

    record Beside(int one, int other, int worth) { }

    record Pull(int from, int many, int to) {
        int code() {
            return 100 * from + 10 * many + to;
        }
    }

    record Sight(int pulls, int house, int rail, boolean is, int told, int[] untold) { }

    record Edge(Pull pull, int weight, List<List<Integer>> next) { }

    record Box(List<List<Integer>> rows, List<Pull> been) { }

    static final class Town {
        final List<Integer> railLengths = new ArrayList<>();
        final List<int[]> houses = new ArrayList<>();
        final List<Beside> besides = new ArrayList<>();
        final List<List<Integer>> rows = new ArrayList<>();
        int neck = 999;
        int draws = 999;
        ModelText.Node law;
        int units;
    }

    private final List<Byte> tape = new ArrayList<>();
    private Town town = new Town();
    private int faultKind;
    private int faultPlace = NONE;
    private List<List<Integer>> rows = new ArrayList<>();
    private List<Pull> been = new ArrayList<>();
    private final List<Pull> told = new ArrayList<>();
    private final List<Integer> goal = new ArrayList<>();
    private List<Integer> lying = new ArrayList<>();
    private final List<Sight> sights = new ArrayList<>();
    private final Box[] boxes = new Box[3];
    private int time;

    int feed(int a, int b, int c, int d, int e) {
        if (tape.size() > 1580) {
            return NONE;
        }
        for (int number : new int[] {a, b, c, d, e}) {
            for (int i = 3; i >= 0; i--) {
                tape.add((byte) (number >> 8 * i));
            }
        }
        return tape.size();
    }

    int end(int n) {
        if (n < 0 || n > tape.size()) {
            return NONE;
        }
        tape.subList(n, tape.size()).clear();
        return n;
    }

    int town() {
        byte[] bytes = new byte[tape.size()];
        for (int i = 0; i < bytes.length; i++) {
            bytes[i] = tape.get(i);
        }
        tape.clear();
        Town read;
        try {
            read = new ModelText(bytes).town();
        } catch (ModelText.Fault fault) {
            faultKind = fault.kind;
            faultPlace = fault.place;
            return NONE;
        }
        faultKind = 0;
        faultPlace = NONE;
        town = read;
        rows = town.rows;
        been = new ArrayList<>();
        told.clear();
        goal.clear();
        lying.clear();
        sights.clear();
        for (int i = 0; i < 3; i++) {
            boxes[i] = null;
        }
        return town.houses.size();
    }

    int fault(int what) {
        return what == 0 ? faultKind : what == 1 ? faultPlace : NONE;
    }

    int on(int rail, int i) {
        return isRail(rail) && i >= 0 && i < rows.get(rail).size() ? rows.get(rail).get(i) : NONE;
    }

    int where(int house, int what) {
        for (int rail = 0; rail < rows.size(); rail++) {
            int ahead = rows.get(rail).indexOf(house);
            if (ahead >= 0) {
                return what == 0 ? rail : what == 1 ? ahead : NONE;
            }
        }
        return NONE;
    }

    int room(int rail) {
        return isRail(rail) ? room(rows, rail) : NONE;
    }

    private int room(List<List<Integer>> at, int rail) {
        int room = town.railLengths.get(rail);
        for (int house : at.get(rail)) {
            room -= town.houses.get(house)[0];
        }
        return room;
    }

    private boolean isRail(int rail) {
        return rail >= 0 && rail < town.railLengths.size();
    }

    private boolean isHouse(int house) {
        return house >= 0 && house < town.houses.size();
    }

    private List<Integer> drawn(List<List<Integer>> at, Pull pull) {
        if (!isRail(pull.from) || !isRail(pull.to) || pull.from == pull.to || pull.many < 1) {
            return null;
        }
        List<Integer> row = at.get(pull.from);
        return pull.many > row.size() ? null : row.subList(row.size() - pull.many, row.size());
    }

    private int sum(List<Integer> houses, int what) {
        int sum = 0;
        for (int house : houses) {
            sum += town.houses.get(house)[what];
        }
        return sum;
    }

    private int asked(List<List<Integer>> at, Pull pull) {
        List<Integer> drawn = drawn(at, pull);
        if (drawn == null) {
            return GAP;
        }
        return town.law == null ? 1 : town.law.value(new ModelText.Asked(drawn, pull.from, pull.to,
                sum(drawn, 0), sum(drawn, 1), room(at, pull.to)));
    }

    private boolean isLawful(List<List<Integer>> at, Pull pull) {
        List<Integer> drawn = drawn(at, pull);
        if (drawn == null) {
            return false;
        }
        int length = sum(drawn, 0);
        return length <= town.neck && sum(drawn, 1) <= town.draws && room(at, pull.to) >= length
                && asked(at, pull) != 0;
    }

    private List<List<Integer>> behind(List<List<Integer>> at, Pull pull) {
        List<Integer> drawn = drawn(at, pull);
        List<List<Integer>> next = new ArrayList<>();
        for (int rail = 0; rail < at.size(); rail++) {
            List<Integer> row = new ArrayList<>(at.get(rail));
            if (rail == pull.from) {
                row = new ArrayList<>(row.subList(0, row.size() - pull.many));
            } else if (rail == pull.to) {
                row.addAll(drawn);
            }
            next.add(row);
        }
        return next;
    }

    int asked(int from, int many, int to) {
        return asked(rows, new Pull(from, many, to));
    }

    int lawful(int from, int many, int to) {
        return isLawful(rows, new Pull(from, many, to)) ? 1 : 0;
    }

    int pull(int from, int many, int to) {
        Pull pull = new Pull(from, many, to);
        if (been.size() == 300 || !isLawful(rows, pull)) {
            return NONE;
        }
        int weight = sum(drawn(rows, pull), 1);
        rows = behind(rows, pull);
        been.add(pull);
        return weight;
    }

    int undo(int pulls) {
        if (pulls < 0 || pulls > 300) {
            return NONE;
        }
        int many = Math.min(pulls, been.size());
        been = new ArrayList<>(been.subList(0, been.size() - many));
        rows = town.rows;
        for (Pull pull : been) {
            rows = behind(rows, pull);
        }
        return many;
    }

    private int worth(List<List<Integer>> at) {
        int worth = 0;
        if (!at.isEmpty()) {
            for (Beside beside : town.besides) {
                int one = at.get(0).indexOf(beside.one);
                int other = at.get(0).indexOf(beside.other);
                if (one >= 0 && other >= 0 && Math.abs(one - other) == 1) {
                    worth += beside.worth;
                }
            }
        }
        return worth;
    }

    int worth() {
        return worth(rows);
    }

    int tell(int from, int many, int to) {
        if (!isRail(from) || !isRail(to) || from == to || many < 1 || many > 8
                || told.size() == 12) {
            return NONE;
        }
        told.add(new Pull(from, many, to));
        return told.size();
    }

    int hush() {
        int many = told.size();
        told.clear();
        return many;
    }

    int judge(int what) {
        List<List<Integer>> at = rows;
        int bad = NONE;
        int weight = 0;
        for (int i = 0; i < told.size() && bad == NONE; i++) {
            if (!isLawful(at, told.get(i))) {
                bad = i;
            } else {
                weight += sum(drawn(at, told.get(i)), 1);
                at = behind(at, told.get(i));
            }
        }
        return what == 0 ? bad : what == 1 ? weight : what == 2 ? worth(at) : GAP;
    }

    int goal(int house) {
        if (!isHouse(house) || goal.contains(house)) {
            return NONE;
        }
        goal.add(house);
        return goal.size();
    }

    int open() {
        int many = goal.size();
        goal.clear();
        return many;
    }

    private boolean isSpent() {
        return town.houses.size() > 6 || town.railLengths.size() > 4;
    }

    private List<Edge> edges(List<List<Integer>> at) {
        List<Edge> edges = new ArrayList<>();
        for (int from = 0; from < at.size(); from++) {
            for (int many = 1; many <= at.get(from).size(); many++) {
                for (int to = 0; to < at.size(); to++) {
                    Pull pull = new Pull(from, many, to);
                    if (isLawful(at, pull)) {
                        edges.add(new Edge(pull, sum(drawn(at, pull), 1), behind(at, pull)));
                    }
                }
            }
        }
        return edges;
    }

    /** Everything that can be come to, with how many pulls it takes at least. */
    private Map<List<List<Integer>>, Integer> reach(Map<List<List<Integer>>, List<Edge>> graph) {
        Map<List<List<Integer>>, Integer> depths = new LinkedHashMap<>();
        ArrayDeque<List<List<Integer>>> queue = new ArrayDeque<>();
        depths.put(rows, 0);
        queue.add(rows);
        while (!queue.isEmpty()) {
            List<List<Integer>> at = queue.poll();
            List<Edge> edges = edges(at);
            graph.put(at, edges);
            for (Edge edge : edges) {
                if (!depths.containsKey(edge.next)) {
                    depths.put(edge.next, depths.get(at) + 1);
                    queue.add(edge.next);
                }
            }
        }
        return depths;
    }

    private static final long FAR = Long.MAX_VALUE / 4;

    /** From each state the least of 1,000,000 * weight (or 0) + pulls to one that is sought. */
    private static Map<List<List<Integer>>, Long> distances(
            Map<List<List<Integer>>, List<Edge>> graph, Predicate<List<List<Integer>>> sought,
            boolean weighs) {
        Map<List<List<Integer>>, Long> far = new HashMap<>();
        for (List<List<Integer>> at : graph.keySet()) {
            far.put(at, sought.test(at) ? 0 : FAR);
        }
        boolean changed = true;
        while (changed) {
            changed = false;
            for (Map.Entry<List<List<Integer>>, List<Edge>> entry : graph.entrySet()) {
                long least = far.get(entry.getKey());
                for (Edge edge : entry.getValue()) {
                    least = Math.min(least, far.get(edge.next) + cost(edge, weighs));
                }
                if (least < far.get(entry.getKey())) {
                    far.put(entry.getKey(), least);
                    changed = true;
                }
            }
        }
        return far;
    }

    private static long cost(Edge edge, boolean weighs) {
        return weighs ? 1000000L * edge.weight + 1 : 1;
    }

    /** Lays the first of the best rows; answers its cost, or NONE. */
    private long search(Predicate<List<List<Integer>>> sought, boolean weighs) {
        Map<List<List<Integer>>, List<Edge>> graph = new LinkedHashMap<>();
        reach(graph);
        Map<List<List<Integer>>, Long> far = distances(graph, sought, weighs);
        long all = far.get(rows);
        if (all >= FAR) {
            return NONE;
        }
        List<List<Integer>> at = rows;
        while (far.get(at) > 0) {
            for (Edge edge : graph.get(at)) {
                if (far.get(edge.next) + cost(edge, weighs) == far.get(at)) {
                    lying.add(edge.pull.code());
                    at = edge.next;
                    break;
                }
            }
        }
        return all;
    }

    private boolean isGoal(List<List<Integer>> at) {
        return goal.isEmpty() || at.get(0).size() >= goal.size()
                && at.get(0).subList(0, goal.size()).equals(goal);
    }

    int fewest() {
        lying = new ArrayList<>();
        return isSpent() ? -2 : (int) search(this::isGoal, false);
    }

    int least() {
        lying = new ArrayList<>();
        if (isSpent()) {
            return -2;
        }
        long cost = search(this::isGoal, true);
        return cost == NONE ? NONE : (int) (cost / 1000000);
    }

    int richest(int n) {
        lying = new ArrayList<>();
        if (n < 0 || n > 30 || isSpent()) {
            return GAP;
        }
        Map<List<List<Integer>>, Integer> depths = reach(new LinkedHashMap<>());
        int best = Integer.MIN_VALUE;
        int fewest = 0;
        for (Map.Entry<List<List<Integer>>, Integer> entry : depths.entrySet()) {
            if (entry.getValue() <= n && worth(entry.getKey()) > best) {
                best = worth(entry.getKey());
                fewest = entry.getValue();
            }
        }
        int worth = best;
        int pulls = fewest;
        search(at -> worth(at) == worth && depths.get(at) == pulls, false);
        return best;
    }

    int free(int house) {
        lying = new ArrayList<>();
        if (!isHouse(house)) {
            return NONE;
        }
        if (isSpent()) {
            return -2;
        }
        return (int) search(at -> at.contains(List.of(house)), false);
    }

    int spare(int n, int what) {
        if (n < 1 || n > 99 || what < 0 || what > 1 || isSpent()) {
            return NONE;
        }
        List<Integer> kept = lying;
        int rail = NONE;
        int fewest = NONE;
        for (int i = 0; i < town.railLengths.size(); i++) {
            int length = town.railLengths.get(i);
            town.railLengths.set(i, length + n);
            lying = new ArrayList<>();
            int pulls = (int) search(this::isGoal, false);
            town.railLengths.set(i, length);
            if (pulls != NONE && (fewest == NONE || pulls < fewest)) {
                rail = i;
                fewest = pulls;
            }
        }
        lying = kept;
        return what == 0 ? rail : fewest;
    }

    int lies(int i) {
        return i >= 0 && i < lying.size() ? lying.get(i) : NONE;
    }

    int sight(int pulls, int house, int rail, boolean is) {
        if (pulls < 0 || pulls > 3 || !isHouse(house) || !isRail(rail) || sights.size() == 20) {
            return NONE;
        }
        sights.add(new Sight(pulls, house, rail, is, time, new int[] {Integer.MAX_VALUE}));
        return sights.size() - 1;
    }

    boolean untell(int sight) {
        if (sight < 0 || sight >= sights.size()
                || sights.get(sight).untold[0] != Integer.MAX_VALUE) {
            return false;
        }
        sights.get(sight).untold[0] = time;
        return true;
    }

    int later(int by) {
        if (by < 0 || by > 1000 || time + by > 100000) {
            return NONE;
        }
        time += by;
        return time;
    }

    /** The ends of all rows of n pulls that fit. */
    private List<List<List<Integer>>> ends(int n, int k) {
        List<List<List<Integer>>> ends = new ArrayList<>();
        ends.add(town.rows);
        for (int pulls = 0; pulls <= n; pulls++) {
            List<List<List<Integer>>> fitting = new ArrayList<>();
            for (List<List<Integer>> end : ends) {
                boolean fits = true;
                for (Sight sight : sights) {
                    boolean known = sight.told <= k
                            && (sight.untold[0] == Integer.MAX_VALUE || sight.untold[0] > k);
                    if (known && sight.pulls == pulls
                            && end.get(sight.rail).contains(sight.house) != sight.is) {
                        fits = false;
                    }
                }
                if (fits) {
                    fitting.add(end);
                }
            }
            ends = fitting;
            if (pulls < n) {
                ends = new ArrayList<>();
                for (List<List<Integer>> end : fitting) {
                    for (Edge edge : edges(end)) {
                        ends.add(edge.next);
                    }
                }
            }
        }
        return ends;
    }

    int fits(int n, int k) {
        return n < 0 || n > 3 ? NONE : ends(n, k).size();
    }

    int can(int house, int n, int k) {
        if (!isHouse(house) || n < 0 || n > 3) {
            return NONE;
        }
        int bits = 0;
        for (List<List<Integer>> end : ends(n, k)) {
            for (int rail = 0; rail < end.size(); rail++) {
                if (end.get(rail).contains(house)) {
                    bits |= 1 << rail;
                }
            }
        }
        return bits;
    }

    int image(int box) {
        if (box < 0 || box > 2) {
            return NONE;
        }
        boxes[box] = new Box(rows, new ArrayList<>(been));
        return been.size();
    }

    int back(int box) {
        if (box < 0 || box > 2 || boxes[box] == null) {
            return NONE;
        }
        rows = boxes[box].rows;
        been = new ArrayList<>(boxes[box].been);
        return been.size();
    }

    int about(int what) {
        switch (what) {
            case 0: return town.houses.size();
            case 1: return town.railLengths.size();
            case 2: return been.size();
            case 3: return told.size();
            case 4: return goal.size();
            case 5: return sights.size();
            case 6: return time;
            case 7: return tape.size();
            case 8: return weightBeen();
            case 9: return town.units;
            case 10: return lying.size();
            default: return NONE;
        }
    }

    private int weightBeen() {
        int weight = 0;
        List<List<Integer>> at = town.rows;
        for (Pull pull : been) {
            weight += sum(drawn(at, pull), 1);
            at = behind(at, pull);
        }
        return weight;
    }
}
