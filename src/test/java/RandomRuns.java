import java.nio.charset.StandardCharsets;
import java.util.ArrayList;
import java.util.List;
import java.util.Random;

/** Random runs of calls on a RailHouses and on the Model: each answer is to be the same. */
public final class RandomRuns {
    private static final int CALLS = 512;

    private final Random random;
    private final int run;
    private final RailHouses houses = new RailHouses();
    private final Model model = new Model();
    private final List<String> told = new ArrayList<>();
    private int calls;
    private int wrong;
    private String text = "";

    private RandomRuns(int run) {
        this.run = run;
        random = new Random(run);
    }

    public static void main(String[] args) {
        int runs = args.length > 0 ? Integer.parseInt(args[0]) : 300;
        int first = args.length > 1 ? Integer.parseInt(args[1]) : 0;
        int failed = 0;
        for (int run = first; run < first + runs; run++) {
            if (!new RandomRuns(run).passes()) {
                failed++;
            }
        }
        System.out.println((runs - failed) + " passed, " + failed + " failed");
        if (failed > 0) {
            System.exit(1);
        }
    }

    private boolean passes() {
        calls = 1;
        while (calls < CALLS && wrong == 0) {
            if (calls == 1 || random.nextInt(60) == 0) {
                tellTown();
            } else {
                call();
            }
        }
        return wrong == 0;
    }

    private void due(String call, long got, long want) {
        calls++;
        told.add(call + " " + want);
        if (got != want) {
            wrong++;
            System.out.println("run " + run + " call " + calls + ": " + call + " answered " + got
                    + ", due is " + want + "; town: " + text);
        }
    }

    private void tellTown() {
        text = new RandomTown(random).text();
        byte[] bytes = text.getBytes(StandardCharsets.ISO_8859_1);
        int feeds = (bytes.length + 19) / 20;
        if (calls + feeds + 10 > CALLS) {
            calls = CALLS;
            return;
        }
        int[] numbers = new int[feeds * 5];
        for (int i = 0; i < feeds * 20; i++) {
            int sign = i < bytes.length ? bytes[i] & 255 : 32;
            numbers[i / 4] |= sign << 8 * (3 - i % 4);
        }
        for (int i = 0; i < numbers.length; i += 5) {
            due("feed", houses.feed(numbers[i], numbers[i + 1], numbers[i + 2], numbers[i + 3],
                    numbers[i + 4]), model.feed(numbers[i], numbers[i + 1], numbers[i + 2],
                    numbers[i + 3], numbers[i + 4]));
        }
        if (bytes.length <= 1600) {
            due("end", houses.end(bytes.length), model.end(bytes.length));
        }
        due("town", houses.town(), model.town());
        due("fault 0", houses.fault(0), model.fault(0));
        due("fault 1", houses.fault(1), model.fault(1));
        due("about 9", houses.about(9), model.about(9));
    }

    private int small(int most) {
        if (random.nextInt(40) > 0) {
            return random.nextInt(most + 3) - 1;
        }
        int[] far = {Integer.MIN_VALUE, Integer.MIN_VALUE + 1, Integer.MAX_VALUE, -1000, 1000,
            random.nextInt()};
        return far[random.nextInt(far.length)];
    }

    private void compareRow() {
        int many = model.about(10);
        due("about 10", houses.about(10), many);
        for (int i = 0; i < many && i < 40; i++) {
            due("lies " + i, houses.lies(i), model.lies(i));
        }
    }

    private void call() {
        int rails = Math.max(model.about(1), 1);
        int all = Math.max(model.about(0), 1);
        int a = small(rails - 1);
        int b = random.nextInt(3) == 0 ? small(8) : 1 + random.nextInt(2);
        int c = small(rails - 1);
        int house = small(all - 1);
        int what = random.nextInt(24);
        if (what < 12) {
            callSmall(what, a, b, c, house);
        } else {
            callLarge(what, a, b, c, house);
        }
    }

    private void callSmall(int what, int a, int b, int c, int house) {
        String three = " " + a + " " + b + " " + c;
        switch (what) {
            case 0: due("on", houses.on(a, b), model.on(a, b)); break;
            case 1: due("where", houses.where(house, b), model.where(house, b)); break;
            case 2: due("room", houses.room(a), model.room(a)); break;
            case 3: due("asked" + three, houses.asked(a, b, c), model.asked(a, b, c)); break;
            case 4: due("lawful" + three, houses.lawful(a, b, c), model.lawful(a, b, c)); break;
            case 5: due("pull" + three, houses.pull(a, b, c), model.pull(a, b, c)); break;
            case 6: case 7: case 8: pullLawfully(random.nextInt(4)); break;
            case 9:
                int undone = random.nextInt(8) == 0 ? 297 + random.nextInt(6) : small(4);
                due("undo " + undone, houses.undo(undone), model.undo(undone));
                break;
            case 10: due("worth", houses.worth(), model.worth()); break;
            default: due("tell" + three, houses.tell(a, b, c), model.tell(a, b, c));
        }
    }

    /** Most pulls at random are not lawful: one that is, or it is told, or asked for. */
    private void pullLawfully(int what) {
        List<int[]> lawful = new ArrayList<>();
        for (int from = 0; from < model.about(1); from++) {
            for (int many = 1; many <= model.about(0); many++) {
                for (int to = 0; to < model.about(1); to++) {
                    if (model.lawful(from, many, to) == 1) {
                        lawful.add(new int[] {from, many, to});
                    }
                }
            }
        }
        if (lawful.isEmpty()) {
            due("lawful", houses.lawful(0, 1, 1), model.lawful(0, 1, 1));
            return;
        }
        int[] p = lawful.get(random.nextInt(lawful.size()));
        switch (what) {
            case 0: due("tell", houses.tell(p[0], p[1], p[2]), model.tell(p[0], p[1], p[2])); break;
            case 1:
                due("asked", houses.asked(p[0], p[1], p[2]), model.asked(p[0], p[1], p[2]));
                due("lawful", houses.lawful(p[0], p[1], p[2]), 1);
                break;
            default: due("pull", houses.pull(p[0], p[1], p[2]), model.pull(p[0], p[1], p[2]));
        }
        due("room", houses.room(p[2]), model.room(p[2]));
    }

    private void callLarge(int what, int a, int b, int c, int house) {
        switch (what) {
            case 12: callRare(random.nextInt(4)); break;
            case 13:
                for (int i = -1; i < 4; i++) {
                    due("judge " + i, houses.judge(i), model.judge(i));
                }
                break;
            case 14: due("goal " + house, houses.goal(house), model.goal(house)); break;
            case 15: due("fewest", houses.fewest(), model.fewest()); compareRow(); break;
            case 16: due("least", houses.least(), model.least()); compareRow(); break;
            case 17:
                int n = random.nextBoolean() ? small(30) : small(5);
                due("richest " + n, houses.richest(n), model.richest(n));
                compareRow();
                break;
            case 18: due("free " + house, houses.free(house), model.free(house)); compareRow(); break;
            case 19:
                int by = random.nextBoolean() ? small(99) : small(4);
                due("spare " + by, houses.spare(by, 0), model.spare(by, 0));
                due("spare " + by + " 1", houses.spare(by, 1), model.spare(by, 1));
                due("spare " + by, houses.spare(by, a), model.spare(by, a));
                compareRow();
                break;
            case 20: callSights(a, house); break;
            case 21: callBoxes(a); break;
            default:
                int about = random.nextInt(13) - 1;
                due("about " + about, houses.about(about), model.about(about));
        }
    }

    private void callRare(int what) {
        switch (what) {
            case 0: due("hush", houses.hush(), model.hush()); break;
            case 1: due("open", houses.open(), model.open()); break;
            case 2:
                int by = random.nextInt(6) == 0 ? random.nextInt(1200) - 100 : small(3);
                due("later " + by, houses.later(by), model.later(by));
                break;
            default:
                int many = small(6);
                due("end", houses.end(many), model.end(many));
                due("fault", houses.fault(many), model.fault(many));
        }
    }

    private void callSights(int rail, int house) {
        int pulls = random.nextInt(8) == 0 ? small(3) : random.nextInt(4);
        int k = random.nextBoolean() ? model.about(6) : small(model.about(6));
        int n = model.about(0) > 6 ? Math.min(pulls, 2) : pulls;
        boolean is = random.nextBoolean();
        if (random.nextInt(3) == 0) {
            due("sight", houses.sight(pulls, house, rail, is), model.sight(pulls, house, rail, is));
        }
        if (random.nextInt(4) == 0) {
            int sight = small(model.about(5) - 1);
            due("untell " + sight, houses.untell(sight) ? 1 : 0, model.untell(sight) ? 1 : 0);
        }
        due("fits " + n + " " + k, houses.fits(n, k), model.fits(n, k));
        due("can " + house + " " + n, houses.can(house, n, k), model.can(house, n, k));
    }

    private void callBoxes(int box) {
        if (random.nextBoolean()) {
            due("image " + box, houses.image(box), model.image(box));
        } else {
            due("back " + box, houses.back(box), model.back(box));
        }
    }
}
