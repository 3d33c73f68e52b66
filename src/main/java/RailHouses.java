import java.util.Arrays;

/**
 * A town on wheels: houses that stand in rows on rails, drawn out at a rail's open end and pushed
 * in on another one. README.md tells how to use it; the promises are in the project's document.
 */
public final class RailHouses {
    public static final int NONE = -1;
    public static final int GAP = -1000000;

    private static final int SPENT = -2;
    private static final int MOST_BYTES = 1600;
    private static final int MOST_RAILS = 5;
    private static final int MOST_HOUSES = 8;
    private static final int MOST_BESIDES = 20;
    private static final int MOST_BEEN = 300;
    private static final int MOST_TOLD = 12;
    private static final int MOST_SEARCHED_HOUSES = 6;
    private static final int MOST_SEARCHED_RAILS = 4;
    private static final int MOST_RICHEST = 30;
    /** More pulls than there are states that a search can come to. */
    private static final int ANY_MANY = 1000000;
    private static final int MOST_SPARED = 99;
    private static final int MOST_LATER = 1000;
    private static final int MOST_TIME = 100000;
    private static final int BOXES = 3;
    private static final long NOTHING_KEPT = -1L;

    private final byte[] tape = new byte[MOST_BYTES];
    private int tapeSize;
    private final Reader reader = new Reader();
    private Town town = new Town();
    private Town nextTown = new Town();
    private final Stand now = new Stand();
    private final Stand trial = new Stand();
    private final Pulls been = new Pulls(MOST_BEEN);
    private final Pulls told = new Pulls(MOST_TOLD);
    private final Pulls lying = new Pulls(64);
    private long goalRow;
    private int goalSize;
    private final long[] boxWords = new long[BOXES];
    private final Pulls[] boxPulls = new Pulls[BOXES];
    private final Sights sights = new Sights();
    private Search search;
    private int time;

    public RailHouses() {
        for (int box = 0; box < BOXES; box++) {
            boxPulls[box] = new Pulls(MOST_BEEN);
        }
        beginTown();
    }

    public int feed(int a, int b, int c, int d, int e) {
        if (tapeSize + 20 > MOST_BYTES) {
            return NONE;
        }
        putBytes(a);
        putBytes(b);
        putBytes(c);
        putBytes(d);
        putBytes(e);
        return tapeSize;
    }

    private void putBytes(int number) {
        for (int shift = 24; shift >= 0 && tapeSize < tape.length; shift -= 8) {
            tape[tapeSize] = (byte) (number >>> shift);
            tapeSize++;
        }
    }

    public int end(int n) {
        if (n < 0 || n > tapeSize) {
            return NONE;
        }
        tapeSize = n;
        return n;
    }

    public int town() {
        boolean isTown = reader.reads(tape, tapeSize, nextTown);
        tapeSize = 0;
        if (!isTown) {
            return NONE;
        }
        Town before = town;
        town = nextTown;
        nextTown = before;
        beginTown();
        return town.houses;
    }

    private void beginTown() {
        now.look(town, town.first);
        been.clear();
        told.clear();
        lying.clear();
        goalRow = 0;
        goalSize = 0;
        sights.clear();
        for (int box = 0; box < BOXES; box++) {
            boxWords[box] = NOTHING_KEPT;
        }
    }

    public int fault(int what) {
        switch (what) {
            case 0:
                return reader.fault;
            case 1:
                return reader.fault == 0 ? NONE : reader.place;
            default:
                return NONE;
        }
    }

    public int on(int rail, int i) {
        if (!isRail(rail) || i < 0 || i >= now.count(rail)) {
            return NONE;
        }
        return now.houseAt(rail, i);
    }

    public int where(int house, int what) {
        if (!isHouse(house)) {
            return NONE;
        }
        switch (what) {
            case 0:
                return now.railOf(house);
            case 1:
                return now.aheadOf(house);
            default:
                return NONE;
        }
    }

    public int room(int rail) {
        return isRail(rail) ? town.roomBeside(rail, now.sets[rail]) : NONE;
    }

    private boolean isRail(int rail) {
        return rail >= 0 && rail < town.rails;
    }

    private boolean isHouse(int house) {
        return house >= 0 && house < town.houses;
    }

    private boolean areUnlikeRails(int from, int to) {
        return isRail(from) && isRail(to) && from != to;
    }

    private boolean canBeFrom(Stand stand, int from, int many, int to) {
        return areUnlikeRails(from, to) && many >= 1 && many <= stand.count(from);
    }

    private boolean isLawfulFrom(Stand stand, int from, int many, int to) {
        return canBeFrom(stand, from, many, to)
                && town.allows(from, stand.last(from, many), to, stand.sets[to]);
    }

    public int asked(int from, int many, int to) {
        if (!canBeFrom(now, from, many, to)) {
            return GAP;
        }
        return town.asks(from, now.last(from, many), to, now.sets[to]);
    }

    public int lawful(int from, int many, int to) {
        return isLawfulFrom(now, from, many, to) ? 1 : 0;
    }

    public int pull(int from, int many, int to) {
        if (!isLawfulFrom(now, from, many, to)) {
            return NONE;
        }
        int weight = town.weights[now.last(from, many)];
        if (!been.add(Pulls.code(from, many, to))) {
            return NONE;
        }
        been.weight += weight;
        now.look(town, now.after(from, many, to));
        return weight;
    }

    public int undo(int pulls) {
        if (pulls < 0 || pulls > MOST_BEEN) {
            return NONE;
        }
        int many = Math.min(pulls, been.size);
        for (int i = 0; i < many; i++) {
            takeBack(been.codes[been.size - 1]);
            been.size--;
        }
        return many;
    }

    private void takeBack(int code) {
        int from = Pulls.fromOf(code);
        int many = Pulls.manyOf(code);
        int to = Pulls.toOf(code);
        if (canBeFrom(now, to, many, from)) {
            been.weight -= town.weights[now.last(to, many)];
            now.look(town, now.after(to, many, from));
        }
    }

    public int worth() {
        return town.worthOf(now.word);
    }

    public int tell(int from, int many, int to) {
        if (!areUnlikeRails(from, to) || many < 1 || many > MOST_HOUSES) {
            return NONE;
        }
        return told.add(Pulls.code(from, many, to)) ? told.size : NONE;
    }

    public int hush() {
        int many = told.size;
        told.clear();
        return many;
    }

    public int judge(int what) {
        trial.look(town, now.word);
        int weight = 0;
        int lawful = 0;
        for (int i = 0; i < told.size; i++) {
            int from = Pulls.fromOf(told.codes[i]);
            int many = Pulls.manyOf(told.codes[i]);
            int to = Pulls.toOf(told.codes[i]);
            if (!isLawfulFrom(trial, from, many, to)) {
                break;
            }
            weight += town.weights[trial.last(from, many)];
            trial.look(town, trial.after(from, many, to));
            lawful++;
        }
        switch (what) {
            case 0:
                return lawful == told.size ? NONE : lawful;
            case 1:
                return weight;
            case 2:
                return town.worthOf(trial.word);
            default:
                return GAP;
        }
    }

    public int goal(int house) {
        if (!isHouse(house) || isInGoal(house) || goalSize >= MOST_HOUSES) {
            return NONE;
        }
        goalRow |= (long) house << Stand.DIGIT * goalSize;
        goalSize++;
        return goalSize;
    }

    private boolean isInGoal(int house) {
        for (int i = 0; i < goalSize; i++) {
            if (Stand.digitOf(goalRow, i) == house) {
                return true;
            }
        }
        return false;
    }

    public int open() {
        int many = goalSize;
        goalRow = 0;
        goalSize = 0;
        return many;
    }

    public int fewest() {
        lying.clear();
        if (isSpent()) {
            return SPENT;
        }
        readySearch();
        search.seekRow(goalRow, goalSize);
        return lay(search.spread(town, now.word, ANY_MANY));
    }

    public int least() {
        lying.clear();
        if (isSpent()) {
            return SPENT;
        }
        readySearch();
        search.seekRow(goalRow, goalSize);
        int end = search.weigh(town, now.word);
        return lay(end) == NONE ? NONE : search.weightTo(end);
    }

    public int richest(int n) {
        lying.clear();
        if (n < 0 || n > MOST_RICHEST || isSpent()) {
            return GAP;
        }
        readySearch();
        search.seekWorth();
        lay(search.spread(town, now.word, n));
        return search.bestWorth;
    }

    public int free(int house) {
        lying.clear();
        if (!isHouse(house)) {
            return NONE;
        }
        if (isSpent()) {
            return SPENT;
        }
        readySearch();
        search.seekAlone(house);
        return lay(search.spread(town, now.word, ANY_MANY));
    }

    public int spare(int n, int what) {
        if (n < 1 || n > MOST_SPARED || what < 0 || what > 1 || isSpent()) {
            return NONE;
        }
        readySearch();
        search.seekRow(goalRow, goalSize);
        int best = NONE;
        int fewest = ANY_MANY;
        for (int rail = 0; rail < town.rails; rail++) {
            town.railLengths[rail] += n;
            int end = search.spread(town, now.word, fewest - 1);
            town.railLengths[rail] -= n;
            if (end != NONE && search.pullsTo(end) < fewest) {
                best = rail;
                fewest = search.pullsTo(end);
            }
        }
        if (best == NONE) {
            return NONE;
        }
        return what == 0 ? best : fewest;
    }

    private boolean isSpent() {
        return town.houses > MOST_SEARCHED_HOUSES || town.rails > MOST_SEARCHED_RAILS;
    }

    /** What a search needs is large: it is made when one is asked for, and used again. */
    private void readySearch() {
        if (search == null) {
            search = new Search();
        }
        search.widen(town.states());
    }

    private int lay(int end) {
        if (end == NONE) {
            return NONE;
        }
        search.copyRow(end, lying);
        return lying.size;
    }

    public int lies(int i) {
        return i < 0 || i >= lying.size ? NONE : lying.codes[i];
    }

    public int sight(int pulls, int house, int rail, boolean is) {
        if (pulls < 0 || pulls > Sights.MOST_PULLS || !isHouse(house) || !isRail(rail)) {
            return NONE;
        }
        return sights.add(pulls, house, rail, is, time);
    }

    public boolean untell(int sight) {
        return sights.remove(sight, time);
    }

    public int later(int by) {
        if (by < 0 || by > MOST_LATER || time + by > MOST_TIME) {
            return NONE;
        }
        time += by;
        return time;
    }

    public int fits(int n, int k) {
        if (n < 0 || n > Sights.MOST_PULLS) {
            return NONE;
        }
        sights.count(town, n, k);
        return sights.rows[n];
    }

    public int can(int house, int n, int k) {
        if (!isHouse(house) || n < 0 || n > Sights.MOST_PULLS) {
            return NONE;
        }
        sights.count(town, n, k);
        return sights.railsOf(house, n);
    }

    public int image(int box) {
        if (box < 0 || box >= BOXES) {
            return NONE;
        }
        boxWords[box] = now.word;
        boxPulls[box].copy(been);
        return been.size;
    }

    public int back(int box) {
        if (box < 0 || box >= BOXES || boxWords[box] == NOTHING_KEPT) {
            return NONE;
        }
        now.look(town, boxWords[box]);
        been.copy(boxPulls[box]);
        return been.size;
    }

    public int about(int what) {
        switch (what) {
            case 0:
                return town.houses;
            case 1:
                return town.rails;
            case 2:
                return been.size;
            case 3:
                return told.size;
            case 4:
                return goalSize;
            case 5:
                return sights.size;
            case 6:
                return time;
            case 7:
                return tapeSize;
            case 8:
                return been.weight;
            case 9:
                return town.law.units;
            case 10:
                return lying.size;
            default:
                return NONE;
        }
    }

    /** A row of pulls, each as its code: 100 * from + 10 * many + to, which orders them, too. */
    private static final class Pulls {
        int[] codes;
        int size;
        int weight;

        Pulls(int most) {
            codes = new int[Math.max(most, 0)];
        }

        static int code(int from, int many, int to) {
            return 100 * from + 10 * many + to;
        }

        static int fromOf(int code) {
            return code / 100;
        }

        static int manyOf(int code) {
            return code / 10 % 10;
        }

        static int toOf(int code) {
            return code % 10;
        }

        void clear() {
            size = 0;
            weight = 0;
        }

        boolean add(int code) {
            if (size >= codes.length) {
                return false;
            }
            codes[size] = code;
            size++;
            return true;
        }

        void copy(Pulls other) {
            widen(other.size);
            System.arraycopy(other.codes, 0, codes, 0, other.size);
            size = other.size;
            weight = other.weight;
        }

        /** Doubles at least: many small steps would use up the room that there is for arrays. */
        void widen(int most) {
            if (most > codes.length) {
                codes = new int[Math.max(most, 2 * codes.length)];
            }
        }
    }

    /** Rails, houses, what they are worth beside one another, and what makes a pull lawful. */
    private static final class Town {
        private static final int MOST_DRAWN = 999;

        int rails;
        int houses;
        int neck;
        int draws;
        int besides;
        long first;
        final int[] railLengths = new int[MOST_RAILS];
        /** By the set of houses, a bit for each: their length together. */
        final int[] lengths = new int[1 << MOST_HOUSES];
        final int[] weights = new int[1 << MOST_HOUSES];
        private final int[] worths = new int[MOST_HOUSES * MOST_HOUSES];
        private final boolean[] areBeside = new boolean[MOST_HOUSES * MOST_HOUSES];
        final Law law = new Law();

        Town() {
            clear();
        }

        void clear() {
            rails = 0;
            houses = 0;
            neck = MOST_DRAWN;
            draws = MOST_DRAWN;
            besides = 0;
            first = 0;
            lengths[0] = 0;
            weights[0] = 0;
            for (int pair = 0; pair < areBeside.length; pair++) {
                worths[pair] = 0;
                areBeside[pair] = false;
            }
            law.clear();
        }

        void addRail(int length) {
            if (rails < MOST_RAILS) {
                railLengths[rails] = length;
                rails++;
            }
        }

        void addHouse(int length, int weight) {
            if (houses >= MOST_HOUSES) {
                return;
            }
            int bit = 1 << houses;
            for (int set = 0; set < bit; set++) {
                lengths[set | bit] = lengths[set] + length;
                weights[set | bit] = weights[set] + weight;
            }
            houses++;
        }

        boolean isTold(int house, int other) {
            return areBeside[house * MOST_HOUSES + other];
        }

        void addBeside(int house, int other, int worth) {
            areBeside[house * MOST_HOUSES + other] = true;
            areBeside[other * MOST_HOUSES + house] = true;
            worths[house * MOST_HOUSES + other] = worth;
            worths[other * MOST_HOUSES + house] = worth;
            besides++;
        }

        /** In how many ways the houses can stand, if all rails were long enough. */
        int states() {
            int states = 1;
            for (int house = 0; house < houses; house++) {
                states *= rails + house;
            }
            return states;
        }

        int roomBeside(int rail, int set) {
            return railLengths[rail] - lengths[set];
        }

        int asks(int from, int drawn, int to, int standing) {
            return law.comesTo(from, drawn, to, roomBeside(to, standing), weights[drawn],
                    lengths[drawn]);
        }

        boolean allows(int from, int drawn, int to, int standing) {
            int length = lengths[drawn];
            return length <= neck && weights[drawn] <= draws
                    && length <= roomBeside(to, standing)
                    && law.comesTo(from, drawn, to, roomBeside(to, standing), weights[drawn],
                            length) != 0;
        }

        int worthOf(long word) {
            int worth = 0;
            int last = NONE;
            for (int i = 0; i < houses; i++) {
                int digit = Stand.digitOf(word, i);
                if (digit >= MOST_HOUSES) {
                    break;
                }
                if (last != NONE) {
                    worth += worths[last * MOST_HOUSES + digit];
                }
                last = digit;
            }
            return worth;
        }
    }

    /** The law as steps over a stack, each a word's number, a sign, or A_NUMBER. */
    private static final class Law {
        static final int A_NUMBER = '0';
        private static final int MOST_STEPS = 512;
        /** No more wait there than there are units. */
        private static final int MOST_STACK = 64;

        int units;
        private int size;
        private final int[] kinds = new int[MOST_STEPS];
        private final int[] values = new int[MOST_STEPS];
        private final int[] stack = new int[MOST_STACK];
        private final int[] given = new int[Tokens.WORDS];

        void clear() {
            units = 0;
            size = 0;
        }

        void addUnit(int kind, int value) {
            units++;
            addStep(kind, value);
        }

        void addStep(int kind, int value) {
            if (size < MOST_STEPS) {
                kinds[size] = kind;
                values[size] = value;
                size++;
            }
        }

        int comesTo(int from, int drawn, int to, int room, int weight, int length) {
            if (size == 0) {
                return 1;
            }
            given[Tokens.FROM] = from;
            given[Tokens.TO] = to;
            given[Tokens.ROOM] = room;
            given[Tokens.MANY] = Integer.bitCount(drawn);
            given[Tokens.WEIGHT] = weight;
            given[Tokens.LENGTH] = length;
            int high = 0;
            for (int i = 0; i < size && high < MOST_STACK; i++) {
                int kind = kinds[i];
                if (kind == A_NUMBER) {
                    stack[high] = values[i];
                    high++;
                } else if (kind == Tokens.TAKES) {
                    stack[high] = drawn >>> values[i] & 1;
                    high++;
                } else if (isGiven(kind)) {
                    stack[high] = given[kind];
                    high++;
                } else if (kind == Tokens.NOT && high > 0) {
                    stack[high - 1] = stack[high - 1] == 0 ? 1 : 0;
                } else if (high > 1) {
                    high--;
                    stack[high - 1] = joined(kind, stack[high - 1], stack[high]);
                }
            }
            return stack[0];
        }

        static boolean isGiven(int kind) {
            return kind == Tokens.LENGTH || kind == Tokens.WEIGHT
                    || kind >= Tokens.MANY && kind <= Tokens.ROOM;
        }

        private static int joined(int kind, int one, int other) {
            switch (kind) {
                case '+':
                    return one + other;
                case '-':
                    return one - other;
                case '*':
                    return one * other;
                case '/':
                    return other == 0 ? 0 : one / other;
                case '<':
                    return one < other ? 1 : 0;
                case '>':
                    return one > other ? 1 : 0;
                case '=':
                    return one == other ? 1 : 0;
                case Tokens.AND:
                    return one != 0 && other != 0 ? 1 : 0;
                default:
                    return one != 0 || other != 0 ? 1 : 0;
            }
        }
    }

    /** The text's tokens, one at a time. */
    private static final class Tokens {
        static final int END = 0;
        static final int BAD = 1;
        static final int NAME = 2;
        static final int WORD = 3;
        static final int NUMBER = 4;
        static final int SIGN = 5;

        static final int RAIL = 0;
        static final int HOUSE = 1;
        static final int BESIDE = 2;
        static final int NECK = 3;
        static final int DRAWS = 4;
        static final int LAW = 5;
        static final int LENGTH = 6;
        static final int WEIGHT = 7;
        static final int ON = 8;
        static final int WORTH = 9;
        static final int OR = 10;
        static final int AND = 11;
        static final int NOT = 12;
        static final int MANY = 13;
        static final int FROM = 14;
        static final int TO = 15;
        static final int ROOM = 16;
        static final int TAKES = 17;
        static final int WORDS = 18;
        /** The words above, in their order. */
        private static final String SPELLED =
                "rail house beside neck draws law length weight on worth or and not many from to room takes ";
        private static final String SIGNS = ";()<>=+-*/";
        private static final int MOST_LETTERS = 8;
        private static final int MOST_DIGITS = 4;

        private final long[] words = new long[WORDS];
        private byte[] text = new byte[0];
        private int size;
        private int next;
        int kind;
        int place;
        long name;
        int word;
        int number;
        int sign;

        Tokens() {
            int spelled = 0;
            for (int i = 0; i < SPELLED.length() && spelled < WORDS; i++) {
                char letter = SPELLED.charAt(i);
                if (letter == ' ') {
                    spelled++;
                } else {
                    words[spelled] = words[spelled] << 5 | letter - 'a' + 1;
                }
            }
        }

        void begin(byte[] bytes, int many) {
            text = bytes;
            size = Math.min(many, bytes.length);
            next = 0;
            advance();
        }

        void advance() {
            word = NONE;
            sign = NONE;
            while (next < size && (text[next] == ' ' || text[next] == '\n')) {
                next++;
            }
            place = next;
            if (next >= size) {
                kind = END;
            } else if (isLetter(text[next])) {
                readWord();
            } else if (isDigit(text[next])) {
                readNumber();
            } else {
                readSign();
            }
        }

        private static boolean isLetter(int sign) {
            return sign >= 'a' && sign <= 'z';
        }

        private static boolean isDigit(int sign) {
            return sign >= '0' && sign <= '9';
        }

        private void readWord() {
            name = 0;
            while (next < size && isLetter(text[next])) {
                if (next - place < MOST_LETTERS) {
                    name = name << 5 | text[next] - 'a' + 1;
                }
                next++;
            }
            if (next - place > MOST_LETTERS) {
                kind = BAD;
                return;
            }
            kind = NAME;
            for (int i = 0; i < WORDS; i++) {
                if (words[i] == name) {
                    kind = WORD;
                    word = i;
                }
            }
        }

        private void readNumber() {
            number = 0;
            while (next < size && isDigit(text[next])) {
                if (next - place < MOST_DIGITS) {
                    number = number * 10 + text[next] - '0';
                }
                next++;
            }
            boolean isLetterBehind = next < size && isLetter(text[next]);
            kind = next - place > MOST_DIGITS || isLetterBehind ? BAD : NUMBER;
        }

        private void readSign() {
            kind = BAD;
            for (int i = 0; i < SIGNS.length(); i++) {
                if (SIGNS.charAt(i) == text[next]) {
                    kind = SIGN;
                    sign = text[next];
                }
            }
            next++;
        }
    }

    /** Reads a town's text; at its first fault it stops taking tokens. */
    private static final class Reader {
        private static final int NO_TOKEN = 1;
        private static final int OUT_OF_PLACE = 2;
        private static final int TOLD_ALREADY = 3;
        private static final int BAD_NUMBER = 4;
        private static final int UNKNOWN_NAME = 5;
        private static final int NO_ROOM = 6;
        private static final int MOST_UNITS = 40;
        private static final int MOST_DEPTH = 7;

        int fault;
        int place = NONE;
        private final Tokens tokens = new Tokens();
        private final long[] railNames = new long[MOST_RAILS];
        private final long[] houseNames = new long[MOST_HOUSES];
        private final int[] houseRails = new int[MOST_HOUSES];
        private final int[] railSets = new int[MOST_RAILS];
        private boolean isNeckTold;
        private boolean isDrawsTold;
        private boolean isLawTold;
        private Town town;
        private Law law;

        boolean reads(byte[] text, int size, Town into) {
            begin(into);
            tokens.begin(text, size);
            for (int i = 0; i < MOST_BYTES && fault == 0 && tokens.kind != Tokens.END; i++) {
                switch (tokens.word) {
                    case Tokens.RAIL:
                        readRail();
                        break;
                    case Tokens.HOUSE:
                        readHouse();
                        break;
                    case Tokens.BESIDE:
                        readBeside();
                        break;
                    case Tokens.NECK:
                        readNeck();
                        break;
                    case Tokens.DRAWS:
                        readDraws();
                        break;
                    case Tokens.LAW:
                        readLaw();
                        break;
                    default:
                        refuse();
                }
            }
            town.first = firstWord();
            return fault == 0;
        }

        private void begin(Town into) {
            town = into;
            law = into.law;
            town.clear();
            Arrays.fill(railSets, 0);
            isNeckTold = false;
            isDrawsTold = false;
            isLawTold = false;
            fault = 0;
            place = NONE;
        }

        private long firstWord() {
            long first = 0;
            int digits = 0;
            for (int rail = 0; rail < town.rails; rail++) {
                if (rail > 0) {
                    first |= (long) Stand.BETWEEN << Stand.DIGIT * digits;
                    digits++;
                }
                for (int house = 0; house < town.houses; house++) {
                    if (houseRails[house] == rail) {
                        first |= (long) house << Stand.DIGIT * digits;
                        digits++;
                    }
                }
            }
            return first;
        }

        private void blame(int kind, int where) {
            if (fault == 0) {
                fault = kind;
                place = where;
            }
        }

        private void refuse() {
            blame(tokens.kind == Tokens.BAD ? NO_TOKEN : OUT_OF_PLACE, tokens.place);
        }

        private void advanceUnless(boolean isTooMuch) {
            if (isTooMuch) {
                refuse();
            } else {
                tokens.advance();
            }
        }

        private void takeWord(int word) {
            if (fault == 0 && tokens.word == word) {
                tokens.advance();
            } else {
                refuse();
            }
        }

        private void takeSign(int sign) {
            if (fault == 0 && tokens.sign == sign) {
                tokens.advance();
            } else {
                refuse();
            }
        }

        private int takeNumber(int least, int most, int blamed) {
            if (fault != 0 || tokens.kind != Tokens.NUMBER) {
                refuse();
                return least;
            }
            int number = tokens.number;
            if (number < least || number > most) {
                blame(BAD_NUMBER, blamed);
            }
            tokens.advance();
            return number;
        }

        private int takeSignedNumber(int most) {
            int blamed = tokens.place;
            if (fault == 0 && tokens.sign == '-') {
                tokens.advance();
                return -takeNumber(0, most, blamed);
            }
            return takeNumber(0, most, blamed);
        }

        private long takeNewName(long[] names, int many) {
            if (fault != 0 || tokens.kind != Tokens.NAME) {
                refuse();
                return 0;
            }
            long name = tokens.name;
            if (numberOf(name, names, many) != NONE) {
                blame(TOLD_ALREADY, tokens.place);
            }
            tokens.advance();
            return name;
        }

        /** The number of what bears the name; 0 behind a fault. */
        private int takeToldName(long[] names, int many) {
            if (fault != 0 || tokens.kind != Tokens.NAME) {
                refuse();
                return 0;
            }
            int number = numberOf(tokens.name, names, many);
            if (number == NONE) {
                blame(UNKNOWN_NAME, tokens.place);
                return 0;
            }
            tokens.advance();
            return number;
        }

        private static int numberOf(long name, long[] names, int many) {
            for (int i = 0; i < many && i < names.length; i++) {
                if (names[i] == name) {
                    return i;
                }
            }
            return NONE;
        }

        private void readRail() {
            advanceUnless(town.rails >= MOST_RAILS);
            long name = takeNewName(railNames, town.rails);
            takeWord(Tokens.LENGTH);
            int length = takeNumber(1, 99, tokens.place);
            takeSign(';');
            if (fault == 0) {
                railNames[town.rails] = name;
                town.addRail(length);
            }
        }

        private void readHouse() {
            advanceUnless(town.houses >= MOST_HOUSES);
            long name = takeNewName(houseNames, town.houses);
            takeWord(Tokens.LENGTH);
            int length = takeNumber(1, 9, tokens.place);
            takeWord(Tokens.WEIGHT);
            int weight = takeNumber(1, 99, tokens.place);
            takeWord(Tokens.ON);
            int rail = takeToldName(railNames, town.rails);
            int end = tokens.place;
            boolean hasRoom = length <= town.roomBeside(rail, railSets[rail]);
            if (tokens.sign == ';' && !hasRoom) {
                blame(NO_ROOM, end);
            }
            takeSign(';');
            if (fault == 0) {
                houseNames[town.houses] = name;
                houseRails[town.houses] = rail;
                railSets[rail] |= 1 << town.houses;
                town.addHouse(length, weight);
            }
        }

        private void readBeside() {
            advanceUnless(town.besides >= MOST_BESIDES);
            int house = takeToldName(houseNames, town.houses);
            int second = tokens.place;
            int other = takeToldName(houseNames, town.houses);
            if (house == other || town.isTold(house, other)) {
                blame(TOLD_ALREADY, second);
            }
            takeWord(Tokens.WORTH);
            int worth = takeSignedNumber(99);
            takeSign(';');
            if (fault == 0) {
                town.addBeside(house, other, worth);
            }
        }

        private void readNeck() {
            advanceUnless(isNeckTold);
            isNeckTold = true;
            town.neck = takeNumber(1, 999, tokens.place);
            takeSign(';');
        }

        private void readDraws() {
            advanceUnless(isDrawsTold);
            isDrawsTold = true;
            town.draws = takeNumber(1, 999, tokens.place);
            takeSign(';');
        }

        private void readLaw() {
            advanceUnless(isLawTold);
            isLawTold = true;
            readEither(0);
            takeSign(';');
        }

        /** The depth counts the ( e ) and the ones behind a not that all of it is within. */
        private void readEither(int depth) {
            readBoth(depth);
            for (int i = 0; i < MOST_UNITS && fault == 0 && tokens.word == Tokens.OR; i++) {
                tokens.advance();
                readBoth(depth);
                law.addStep(Tokens.OR, 0);
            }
        }

        private void readBoth(int depth) {
            readOne(depth);
            for (int i = 0; i < MOST_UNITS && fault == 0 && tokens.word == Tokens.AND; i++) {
                tokens.advance();
                readOne(depth);
                law.addStep(Tokens.AND, 0);
            }
        }

        private void readOne(int depth) {
            if (tokens.word == Tokens.NOT) {
                readNot(depth);
                return;
            }
            readSum(depth);
            int sign = tokens.sign;
            if (fault == 0 && (sign == '<' || sign == '>' || sign == '=')) {
                tokens.advance();
                readSum(depth);
                law.addStep(sign, 0);
            }
        }

        private void readNot(int depth) {
            advanceUnless(depth >= MOST_DEPTH);
            if (fault == 0) {
                readOne(depth + 1);
                law.addStep(Tokens.NOT, 0);
            }
        }

        private void readSum(int depth) {
            readTerm(depth);
            int sign = tokens.sign;
            for (int i = 0; i < MOST_UNITS && fault == 0 && (sign == '+' || sign == '-'); i++) {
                tokens.advance();
                readTerm(depth);
                law.addStep(sign, 0);
                sign = tokens.sign;
            }
        }

        private void readTerm(int depth) {
            readUnit(depth);
            int sign = tokens.sign;
            for (int i = 0; i < MOST_UNITS && fault == 0 && (sign == '*' || sign == '/'); i++) {
                tokens.advance();
                readUnit(depth);
                law.addStep(sign, 0);
                sign = tokens.sign;
            }
        }

        private void readUnit(int depth) {
            if (fault != 0 || law.units >= MOST_UNITS) {
                refuse();
            } else if (tokens.kind == Tokens.NUMBER) {
                law.addUnit(Law.A_NUMBER, tokens.number);
                tokens.advance();
            } else if (tokens.word == Tokens.TAKES) {
                tokens.advance();
                law.addUnit(Tokens.TAKES, takeToldName(houseNames, town.houses));
            } else if (Law.isGiven(tokens.word)) {
                law.addUnit(tokens.word, 0);
                tokens.advance();
            } else if (tokens.sign == '(' && depth < MOST_DEPTH) {
                law.units++;
                tokens.advance();
                readEither(depth + 1);
                takeSign(')');
            } else {
                refuse();
            }
        }
    }

    /**
     * How houses stand, as one number and spread out. The number's digits, the lowest first, are
     * the houses from the first rail's first to the last rail's last, BETWEEN parting the rails.
     */
    private static final class Stand {
        static final int DIGIT = 4;
        static final int BETWEEN = MOST_HOUSES;
        private static final int MOST_PULLS = MOST_HOUSES * (MOST_RAILS - 1);

        long word;
        private int rails;
        private final int[] begins = new int[MOST_RAILS];
        private final int[] ends = new int[MOST_RAILS];
        /** By rail: the set of houses on it, a bit for each. */
        final int[] sets = new int[MOST_RAILS];
        private final int[] unions = new int[MOST_RAILS];
        int nexts;
        final int[] nextCodes = new int[MOST_PULLS];
        final int[] nextDrawns = new int[MOST_PULLS];
        /** By pull: the set of the houses that the drawn ones go past. */
        final int[] nextPasseds = new int[MOST_PULLS];
        /** By pull: over how many rails' ends they go on, below 0 if they go back. */
        final int[] nextSteps = new int[MOST_PULLS];
        final int[] nextNumbers = new int[MOST_PULLS];

        static int digitOf(long word, int i) {
            return (int) (word >>> DIGIT * i) & 15;
        }

        void look(Town town, long standing) {
            word = standing;
            rails = town.rails;
            int digits = Math.max(town.houses + town.rails - 1, 0);
            int rail = 0;
            begins[0] = 0;
            sets[0] = 0;
            for (int i = 0; i < digits; i++) {
                int digit = digitOf(standing, i);
                if (digit < MOST_HOUSES) {
                    sets[rail] |= 1 << digit;
                } else if (rail + 1 < MOST_RAILS) {
                    ends[rail] = i;
                    rail++;
                    begins[rail] = i + 1;
                    sets[rail] = 0;
                }
            }
            ends[rail] = digits;
        }

        int count(int rail) {
            return ends[rail] - begins[rail];
        }

        int houseAt(int rail, int i) {
            return digitOf(word, begins[rail] + i);
        }

        int railOf(int house) {
            for (int rail = 0; rail < rails; rail++) {
                if ((sets[rail] >>> house & 1) != 0) {
                    return rail;
                }
            }
            return NONE;
        }

        int aheadOf(int house) {
            int rail = railOf(house);
            if (rail == NONE) {
                return NONE;
            }
            int ahead = 0;
            for (int i = 0; i < count(rail) && houseAt(rail, i) != house; i++) {
                ahead++;
            }
            return ahead;
        }

        /** The set of the last houses of a rail. */
        int last(int rail, int many) {
            int set = 0;
            for (int i = ends[rail] - many; i < ends[rail]; i++) {
                set |= 1 << digitOf(word, i);
            }
            return set;
        }

        /** The number behind a pull: two stretches of digits that meet change places. */
        long after(int from, int many, int to) {
            int end = ends[from];
            return from < to ? swapped(end - many, end, ends[to])
                    : swapped(ends[to], end - many, end);
        }

        private long swapped(int low, int middle, int high) {
            long first = word >>> DIGIT * low & ones(middle - low);
            long second = word >>> DIGIT * middle & ones(high - middle);
            long rest = word & ~(ones(high - low) << DIGIT * low);
            return rest | second << DIGIT * low | first << DIGIT * (low + high - middle);
        }

        static long ones(int digits) {
            return (1L << DIGIT * digits) - 1;
        }

        /** All lawful pulls from here, in their order. */
        void listPulls(Permits permits) {
            nexts = 0;
            unite();
            for (int from = 0; from < rails; from++) {
                int drawn = 0;
                int many = 0;
                for (int i = ends[from] - 1; i >= begins[from]; i--) {
                    drawn |= 1 << digitOf(word, i);
                    many++;
                    for (int to = 0; to < rails; to++) {
                        if (to != from && nexts < MOST_PULLS
                                && permits.allows(from, drawn, to, sets[to])) {
                            nextCodes[nexts] = Pulls.code(from, many, to);
                            nextDrawns[nexts] = drawn;
                            nextPasseds[nexts] = (unions[from] ^ unions[to]) & ~drawn;
                            nextSteps[nexts] = to - from;
                            nexts++;
                        }
                    }
                }
            }
        }

        private void unite() {
            int union = 0;
            for (int rail = 0; rail < rails; rail++) {
                union |= sets[rail];
                unions[rail] = union;
            }
        }

        long nextWord(int i) {
            int code = nextCodes[i];
            return after(Pulls.fromOf(code), Pulls.manyOf(code), Pulls.toOf(code));
        }
    }

    /** Whether pulls are lawful; keeps what the town said, as far as it has places for it. */
    private static final class Permits {
        private static final int YES = 1;
        private static final int NO = 2;
        /** Sixteen places, of two bits each, are in one number. */
        private static final int IN_ONE = 4;

        private final int[] known;
        private Town town;

        Permits(int places) {
            known = new int[Math.max(places >> IN_ONE, 0)];
        }

        static int placesFor(int houses, int rails) {
            return rails * rails << 2 * houses;
        }

        void begin(Town asked) {
            town = asked;
            int numbers = (placesFor(asked.houses, asked.rails) >> IN_ONE) + 1;
            Arrays.fill(known, 0, Math.min(numbers, known.length), 0);
        }

        boolean allows(int from, int drawn, int to, int standing) {
            int houses = town.houses;
            int place = ((from * town.rails + to) << houses | drawn) << houses | standing;
            int at = place >> IN_ONE;
            if (at < 0 || at >= known.length) {
                return town.allows(from, drawn, to, standing);
            }
            int shift = 2 * (place & (1 << IN_ONE) - 1);
            int permit = known[at] >>> shift & 3;
            if (permit == 0) {
                permit = town.allows(from, drawn, to, standing) ? YES : NO;
                known[at] |= permit << shift;
            }
            return permit == YES;
        }
    }

    /**
     * Numbers from 0 on for all ways in which a town's houses can stand. A house's place is how
     * many BETWEENs and houses of lower number stand ahead of it; the number is all their places,
     * each times the house's unit: a house has as many places as there are rails and lower houses.
     */
    private static final class Numbers {
        private static final int SETS = 1 << MOST_SEARCHED_HOUSES;

        private int houses;
        private int rails;
        private final int[] units = new int[MOST_SEARCHED_HOUSES];
        /** By a set of houses: their units together. */
        private final int[] sums = new int[SETS];
        /** By a set and one that it goes past, behind it then: by how much the number is more. */
        private final int[] turns = new int[SETS * SETS];

        void begin(Town town) {
            if (houses == town.houses && rails == town.rails) {
                return;
            }
            houses = Math.min(town.houses, MOST_SEARCHED_HOUSES);
            rails = town.rails;
            int unit = 1;
            for (int house = 0; house < houses; house++) {
                units[house] = unit;
                unit *= rails + house;
                for (int rest = 0; rest < 1 << house; rest++) {
                    sums[rest | 1 << house] = sums[rest] + units[house];
                }
            }
            for (int house = 0; house < houses; house++) {
                for (int rest = 0; rest < 1 << house; rest++) {
                    addTurns(rest, house);
                }
            }
        }

        private void addTurns(int rest, int house) {
            int row = (rest | 1 << house) * SETS;
            for (int passed = 0; passed < 1 << houses; passed++) {
                int lower = passed & (1 << house) - 1;
                int higher = passed >>> house + 1 << house + 1;
                turns[row + passed] = turns[rest * SETS + passed]
                        + units[house] * Integer.bitCount(lower) - sums[higher];
            }
        }

        int numberOf(long word) {
            int number = 0;
            int betweens = 0;
            int ahead = 0;
            for (int i = 0; i < houses + rails - 1; i++) {
                int digit = Stand.digitOf(word, i);
                if (digit < houses) {
                    int lower = ahead & (1 << digit) - 1;
                    number += units[digit] * (betweens + Integer.bitCount(lower));
                    ahead |= 1 << digit;
                } else {
                    betweens++;
                }
            }
            return number;
        }

        long wordOf(int number) {
            long word = 0;
            for (int i = 0; i < rails - 1; i++) {
                word |= (long) Stand.BETWEEN << Stand.DIGIT * i;
            }
            int rest = number;
            for (int house = 0; house < houses; house++) {
                int places = Math.max(rails + house, 1);
                int shift = Stand.DIGIT * (rest % places);
                long ahead = word & (1L << shift) - 1;
                word = (word ^ ahead) << Stand.DIGIT | (long) house << shift | ahead;
                rest /= places;
            }
            return word;
        }

        /** Numbers what the listed pulls lead to. */
        void follow(int number, Stand stand) {
            for (int i = 0; i < stand.nexts; i++) {
                int drawn = stand.nextDrawns[i];
                int steps = stand.nextSteps[i];
                int turned = turns[drawn * SETS + stand.nextPasseds[i]];
                stand.nextNumbers[i] = number + steps * sums[drawn]
                        + (steps > 0 ? turned : -turned);
            }
        }
    }

    /**
     * The states that a search has come to, by their numbers. Those that wait to be gone on from
     * stand in lists by their weight, the earliest first; no pull weighs as much as there are lists,
     * so all in one list are of one weight.
     */
    private static final class Found {
        static final int NOBODY = 65535;
        private static final int LISTS = 1024;
        private static final int CODE_BITS = 9;
        private static final int NUMBER_BITS = 16;

        final int states;
        int waiting;
        /** By state: behind how many pulls, from which state and by which pull; NONE if it is new. */
        private final long[] leads;
        private final int[] weights;
        /** By state: which is behind it in its list, and which is ahead. */
        private final int[] links;
        private final int[] heads = new int[LISTS];
        private final int[] tails = new int[LISTS];

        Found(int most) {
            states = Math.max(most, 0);
            leads = new long[states];
            weights = new int[states];
            links = new int[states];
        }

        void begin(int many) {
            waiting = 0;
            Arrays.fill(leads, 0, Math.min(many, states), NONE);
            Arrays.fill(heads, NOBODY);
            Arrays.fill(tails, NOBODY);
        }

        boolean isNew(int number) {
            return number >= 0 && number < states && leads[number] == NONE;
        }

        /** The first state leads to itself. */
        void lead(int number, int parent, int code) {
            long pulls = number == parent ? 0 : pullsTo(parent) + 1;
            leads[number] = (pulls << NUMBER_BITS | parent) << CODE_BITS | code;
        }

        int pullsTo(int number) {
            return (int) (leads[number] >>> NUMBER_BITS + CODE_BITS);
        }

        private int parentOf(int number) {
            return (int) (leads[number] >>> CODE_BITS) & NOBODY;
        }

        private int codeOf(int number) {
            return (int) leads[number] & (1 << CODE_BITS) - 1;
        }

        int weightTo(int number) {
            return weights[number];
        }

        /** Whether the one's row has fewer pulls or, of as many, is the first. */
        private boolean isAhead(int one, int other) {
            int pulls = pullsTo(one);
            if (pulls != pullsTo(other)) {
                return pulls < pullsTo(other);
            }
            boolean isAhead = false;
            for (int i = pulls; i > 0 && one != other; i--) {
                if (codeOf(one) != codeOf(other)) {
                    isAhead = codeOf(one) < codeOf(other);
                }
                one = parentOf(one);
                other = parentOf(other);
            }
            return isAhead;
        }

        /** Whether a row by way of another state is better than the one so far. */
        boolean isBetter(int number, int by, int weight) {
            if (weight != weights[number]) {
                return weight < weights[number];
            }
            return isAhead(by, parentOf(number));
        }

        int better(int one, int other) {
            return other == NONE || isAhead(one, other) ? one : other;
        }

        void copyRow(int number, Pulls row) {
            row.clear();
            row.widen(pullsTo(number));
            row.size = pullsTo(number);
            for (int i = row.size - 1; i >= 0; i--) {
                row.codes[i] = codeOf(number);
                number = parentOf(number);
            }
        }

        int headOf(int weight) {
            return heads[weight & LISTS - 1];
        }

        int behind(int number) {
            return links[number] >>> NUMBER_BITS;
        }

        private int ahead(int number) {
            return links[number] & NOBODY;
        }

        void put(int number, int weight) {
            int list = weight & LISTS - 1;
            int last = tails[list];
            if (last == NOBODY) {
                heads[list] = number;
            } else {
                links[last] = number << NUMBER_BITS | ahead(last);
            }
            tails[list] = number;
            links[number] = NOBODY << NUMBER_BITS | last;
            weights[number] = weight;
            waiting++;
        }

        void drop(int number) {
            int list = weights[number] & LISTS - 1;
            int before = ahead(number);
            int next = behind(number);
            if (before == NOBODY) {
                heads[list] = next;
            } else {
                links[before] = next << NUMBER_BITS | ahead(before);
            }
            if (next == NOBODY) {
                tails[list] = before;
            } else {
                links[next] = behind(next) << NUMBER_BITS | before;
            }
            waiting--;
        }
    }

    /** From how houses stand to what is sought, over all that can be come to. */
    private static final class Search {
        private static final int ROW = 0;
        private static final int ALONE = 1;
        private static final int WORTH = 2;
        /** No row of pulls weighs more: 60,480 states, a pull's weight 594 at most. */
        private static final int MOST_WEIGHT = 36000000;

        int bestWorth;
        private Found found = new Found(0);
        private final Numbers numbers = new Numbers();
        private final Permits permits =
                new Permits(Permits.placesFor(MOST_SEARCHED_HOUSES, MOST_SEARCHED_RAILS));
        private final Stand stand = new Stand();
        private Town town;
        private int sought;
        private long row;
        private long rowDigits;
        private int house;
        private int best;

        void widen(int states) {
            if (found.states < states) {
                found = new Found(states);
            }
        }

        void seekRow(long houses, int many) {
            sought = ROW;
            row = houses;
            rowDigits = Stand.ones(many);
        }

        void seekAlone(int alone) {
            sought = ALONE;
            house = alone;
        }

        void seekWorth() {
            sought = WORTH;
        }

        int pullsTo(int end) {
            return found.pullsTo(end);
        }

        int weightTo(int end) {
            return found.weightTo(end);
        }

        void copyRow(int end, Pulls into) {
            found.copyRow(end, into);
        }

        private int begin(Town searched, long from) {
            town = searched;
            best = NONE;
            bestWorth = 0;
            numbers.begin(town);
            permits.begin(town);
            found.begin(town.states());
            int start = numbers.numberOf(from);
            if (!found.isNew(start)) {
                return NONE;
            }
            found.lead(start, start, 0);
            found.put(start, 0);
            return start;
        }

        /**
         * Goes on in the order in which states were come to, so the first that is met has the
         * fewest pulls and of like rows the first one. For WORTH: the best state.
         */
        int spread(Town searched, long from, int mostPulls) {
            int at = begin(searched, from);
            if (at == NONE || isMet(at, from)) {
                return at;
            }
            for (int i = 0; i < found.states && at != Found.NOBODY
                    && found.pullsTo(at) < mostPulls; i++) {
                int met = goOn(at);
                if (met != NONE) {
                    return met;
                }
                at = found.behind(at);
            }
            return best;
        }

        private int goOn(int at) {
            stand.look(town, numbers.wordOf(at));
            stand.listPulls(permits);
            numbers.follow(at, stand);
            for (int i = 0; i < stand.nexts; i++) {
                int number = stand.nextNumbers[i];
                if (found.isNew(number)) {
                    found.lead(number, at, stand.nextCodes[i]);
                    found.put(number, 0);
                    if (isMet(number, stand.nextWord(i))) {
                        return number;
                    }
                }
            }
            return NONE;
        }

        private boolean isMet(int number, long word) {
            switch (sought) {
                case ROW:
                    return (word & rowDigits) == row;
                case ALONE:
                    return isAlone(word);
                default:
                    keepBest(number, town.worthOf(word));
                    return false;
            }
        }

        private void keepBest(int number, int worth) {
            if (best == NONE || worth > bestWorth) {
                best = number;
                bestWorth = worth;
            }
        }

        private boolean isAlone(long word) {
            int digits = town.houses + town.rails - 1;
            boolean isAlone = true;
            for (int i = 1; i < digits; i++) {
                int one = Stand.digitOf(word, i - 1);
                int other = Stand.digitOf(word, i);
                if (one == house && other != Stand.BETWEEN
                        || other == house && one != Stand.BETWEEN) {
                    isAlone = false;
                }
            }
            return isAlone;
        }

        /** Goes on from the lightest states, each with its best row, to the best that is met. */
        int weigh(Town searched, long from) {
            if (begin(searched, from) == NONE) {
                return NONE;
            }
            for (int weight = 0; weight <= MOST_WEIGHT && found.waiting > 0; weight++) {
                int met = bestMet(weight);
                if (met != NONE) {
                    return met;
                }
                for (int i = 0; i < found.states && found.headOf(weight) != Found.NOBODY; i++) {
                    int at = found.headOf(weight);
                    found.drop(at);
                    weighOn(at);
                }
            }
            return NONE;
        }

        private int bestMet(int weight) {
            int met = NONE;
            int number = found.headOf(weight);
            for (int i = 0; i < found.states && number != Found.NOBODY; i++) {
                if (isMet(number, numbers.wordOf(number))) {
                    met = found.better(number, met);
                }
                number = found.behind(number);
            }
            return met;
        }

        private void weighOn(int at) {
            stand.look(town, numbers.wordOf(at));
            stand.listPulls(permits);
            numbers.follow(at, stand);
            int ahead = found.weightTo(at);
            for (int i = 0; i < stand.nexts; i++) {
                int weight = ahead + town.weights[stand.nextDrawns[i]];
                int number = stand.nextNumbers[i];
                if (found.isNew(number)) {
                    found.lead(number, at, stand.nextCodes[i]);
                    found.put(number, weight);
                } else if (found.isBetter(number, at, weight)) {
                    found.lead(number, at, stand.nextCodes[i]);
                    found.drop(number);
                    found.put(number, weight);
                }
            }
        }
    }

    /** What was seen behind pulls, when it was told and untold, and what could have been. */
    private static final class Sights {
        static final int MOST_PULLS = 3;
        private static final int MOST_SIGHTS = 20;
        private static final int NEVER = -1;

        int size;
        private final int[] pulls = new int[MOST_SIGHTS];
        private final int[] houses = new int[MOST_SIGHTS];
        private final int[] onRails = new int[MOST_SIGHTS];
        private final boolean[] stood = new boolean[MOST_SIGHTS];
        private final int[] toldAt = new int[MOST_SIGHTS];
        private final int[] untoldAt = new int[MOST_SIGHTS];
        private final Stand[] stands = new Stand[MOST_PULLS + 1];
        private final Permits permits = new Permits(0);
        private Town town;
        private int counting;
        private int most;
        /** By n: the set of sights for which the rows and the rails below it were counted. */
        private final int[] counted = new int[MOST_PULLS + 1];
        final int[] rows = new int[MOST_PULLS + 1];
        private final int[] seen = new int[(MOST_PULLS + 1) * MOST_RAILS];

        Sights() {
            for (int i = 0; i <= MOST_PULLS; i++) {
                stands[i] = new Stand();
            }
        }

        void clear() {
            size = 0;
            Arrays.fill(counted, NONE);
        }

        int add(int behind, int house, int rail, boolean is, int time) {
            if (size >= MOST_SIGHTS) {
                return NONE;
            }
            pulls[size] = behind;
            houses[size] = house;
            onRails[size] = rail;
            stood[size] = is;
            toldAt[size] = time;
            untoldAt[size] = NEVER;
            size++;
            return size - 1;
        }

        boolean remove(int sight, int time) {
            if (sight < 0 || sight >= size || untoldAt[sight] != NEVER) {
                return false;
            }
            untoldAt[sight] = time;
            return true;
        }

        private int setKnownAt(int n, int k) {
            int set = 0;
            for (int i = 0; i < size; i++) {
                boolean isUntold = untoldAt[i] != NEVER && untoldAt[i] <= k;
                if (pulls[i] <= n && toldAt[i] <= k && !isUntold) {
                    set |= 1 << i;
                }
            }
            return set;
        }

        void count(Town asked, int n, int k) {
            int set = setKnownAt(n, k);
            if (counted[n] == set) {
                return;
            }
            counted[n] = set;
            rows[n] = 0;
            Arrays.fill(seen, n * MOST_RAILS, (n + 1) * MOST_RAILS, 0);
            town = asked;
            counting = set;
            most = n;
            permits.begin(asked);
            stands[0].look(asked, asked.first);
            goOn(0);
        }

        private void goOn(int depth) {
            if (!agrees(stands[depth], depth)) {
                return;
            }
            if (depth < most) {
                pullOn(depth);
            } else {
                countRow(stands[depth]);
            }
        }

        private void pullOn(int depth) {
            Stand stand = stands[depth];
            stand.listPulls(permits);
            for (int i = 0; i < stand.nexts; i++) {
                stands[depth + 1].look(town, stand.nextWord(i));
                goOn(depth + 1);
            }
        }

        private void countRow(Stand end) {
            rows[most]++;
            for (int rail = 0; rail < town.rails; rail++) {
                seen[most * MOST_RAILS + rail] |= end.sets[rail];
            }
        }

        private boolean agrees(Stand stand, int depth) {
            for (int i = 0; i < size; i++) {
                if ((counting >>> i & 1) != 0 && pulls[i] == depth) {
                    boolean isOn = (stand.sets[onRails[i]] >>> houses[i] & 1) != 0;
                    if (isOn != stood[i]) {
                        return false;
                    }
                }
            }
            return true;
        }

        int railsOf(int house, int n) {
            int bits = 0;
            for (int rail = 0; rail < MOST_RAILS; rail++) {
                bits |= (seen[n * MOST_RAILS + rail] >>> house & 1) << rail;
            }
            return bits;
        }
    }
}
