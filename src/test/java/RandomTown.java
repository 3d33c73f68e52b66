import java.util.Random;

/** A random town's text, at times with faults in it. */
final class RandomTown {
    private static final String[] NAMES = {"a", "b", "c", "d", "e", "f", "g", "h", "line", "sidingab",
        "wheel", "x"};
    private static final String[] ODD = {" ", "\n", ";", "(", ")", "<", ">", "=", "+", "-", "*", "/",
        "0", "7", "99", "100", "1000", "12345", "3x", "rail", "house", "length", "weight", "on",
        "beside", "worth", "neck", "draws", "law", "or", "and", "not", "many", "from", "to", "room",
        "takes", "a", "zz", "abcdefgh", "abcdefghi", "$", "A", "\t", "\u00e9", "."};

    private final Random random;
    private final StringBuilder text = new StringBuilder();
    private int rails;
    private int houses;

    RandomTown(Random random) {
        this.random = random;
    }

    private int upTo(int most) {
        return 1 + random.nextInt(most);
    }

    private String blank() {
        int what = random.nextInt(20);
        return what == 0 ? "\n" : what == 1 ? "  " : " ";
    }

    private void put(String... parts) {
        for (String part : parts) {
            text.append(part).append(blank());
        }
    }

    String text() {
        int shape = random.nextInt(20);
        rails = shape < 12 ? 3 : shape < 15 ? 2 : shape < 17 ? 4 : upTo(5);
        houses = rails > 3 ? upTo(4) : shape == 19 ? upTo(8) : upTo(5);
        if (shape == 18) {
            houses = 7 + random.nextInt(2);
        }
        int line = random.nextInt(3) == 0 ? 40 : houses + upTo(12);
        for (int rail = 0; rail < rails; rail++) {
            int length = rail == 0 ? Math.min(99, 3 * houses + line) : upTo(random.nextInt(4) == 0 ? 20 : 7);
            put("rail", NAMES[rail], "length", "" + length, ";");
        }
        for (int house = 0; house < houses; house++) {
            int rail = random.nextInt(8) == 0 ? random.nextInt(rails) : 0;
            put("house", NAMES[house], "length", "" + upTo(rail == 0 ? 3 : 1),
                    "weight", "" + upTo(random.nextBoolean() ? 4 : 99), "on", NAMES[rail], ";");
        }
        besides();
        if (random.nextInt(4) == 0) {
            put("neck", "" + upTo(8), ";");
        }
        if (random.nextInt(4) == 0) {
            put("draws", "" + upTo(120), ";");
        }
        if (random.nextInt(2) == 0) {
            put("law");
            law(0);
            put(";");
        }
        if (random.nextInt(4) == 0) {
            spoil();
        }
        return text.length() > 1700 ? text.substring(0, 1700) : text.toString();
    }

    private void besides() {
        boolean[] pairs = new boolean[64];
        for (int i = random.nextInt(8); i > 0; i--) {
            int one = random.nextInt(houses);
            int other = random.nextInt(houses);
            if (one != other && !pairs[one * 8 + other] || random.nextInt(60) == 0) {
                pairs[one * 8 + other] = true;
                pairs[other * 8 + one] = true;
                put("beside", NAMES[one], NAMES[other], "worth",
                        (random.nextInt(3) == 0 ? random.nextBoolean() ? "-" : "- " : "")
                        + random.nextInt(100), ";");
            }
        }
    }

    private void law(int depth) {
        int what = random.nextInt(12);
        if (depth == 0 && random.nextInt(3) == 0) {
            put("many", "<", "" + (2 + random.nextInt(3)), "or");
        }
        if (what == 0) {
            both(depth);
            put("or");
        } else if (what == 1) {
            put("not", "takes", NAMES[random.nextInt(houses)], "or");
        }
        both(depth);
    }

    private void both(int depth) {
        one(depth);
        if (random.nextInt(6) == 0) {
            put("and");
            one(depth);
        }
    }

    private void one(int depth) {
        if (random.nextInt(5) == 0) {
            put("not");
            if (random.nextInt(5) > 0 || depth > 7) {
                sum(depth);
            } else {
                one(depth + 1);
            }
            return;
        }
        sum(depth);
        if (random.nextInt(2) == 0) {
            put(random.nextInt(3) == 0 ? "=" : random.nextBoolean() ? "<" : ">");
            sum(depth);
        }
    }

    private void sum(int depth) {
        term(depth);
        while (random.nextInt(4) == 0) {
            put(random.nextBoolean() ? "+" : "-");
            term(depth);
        }
    }

    private void term(int depth) {
        unit(depth);
        while (random.nextInt(5) == 0) {
            put(random.nextBoolean() ? "*" : "/");
            unit(depth);
        }
    }

    private void unit(int depth) {
        String[] words = {"many", "weight", "length", "from", "to", "room"};
        int what = random.nextInt(12);
        if (what < 6) {
            put(words[what]);
        } else if (what < 8) {
            put("" + random.nextInt(random.nextBoolean() ? 4 : 10000));
        } else if (what < 10 && depth < 9) {
            put("(");
            law(depth + 1);
            put(")");
        } else {
            put("takes", NAMES[random.nextInt(houses)]);
        }
    }

    private void spoil() {
        for (int i = upTo(2); i > 0; i--) {
            int at = random.nextInt(text.length());
            switch (random.nextInt(8)) {
                case 4: replaceWord(at, NAMES[random.nextInt(NAMES.length)]); break;
                case 5: replaceNumber(at); break;
                case 6: replaceNumber(random.nextInt(text.length() / 2 + 1)); break;
                case 0: text.deleteCharAt(at); break;
                case 1: text.insert(at, ODD[random.nextInt(ODD.length)]); break;
                case 2: replaceWord(at, ODD[random.nextInt(ODD.length)]); break;
                case 3: text.setLength(at + 1); break;
                default: replaceWord(at, "" + random.nextInt(1100));
            }
        }
    }

    private void replaceWord(int at, String word) {
        int from = text.lastIndexOf(" ", at) + 1;
        int to = text.indexOf(" ", at);
        text.replace(from, to < from ? text.length() : to, word);
    }

    /** The first number behind a place. */
    private void replaceNumber(int at) {
        int from = at;
        while (from < text.length() && !Character.isDigit(text.charAt(from))) {
            from++;
        }
        int to = from;
        while (to < text.length() && Character.isDigit(text.charAt(to))) {
            to++;
        }
        int[] odd = {0, 1, 9, 10, 99, 100, 999, 1000, 9999, 12345};
        text.replace(from, to, "" + odd[random.nextInt(odd.length)]);
    }
}
