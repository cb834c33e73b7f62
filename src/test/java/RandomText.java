import java.util.ArrayList;
import java.util.List;
import java.util.Random;

/** Makes texts of the language, whole ones and, by small changes, faulty ones. */
final class RandomText {
    private static final String[] WORDS = {
        "hung", "plan", "ground", "cost", "ward", "street", "wind", "leans", "gives", "believes",
        "or", "and", "not", "lean", "height", "day", "weight", "mortar", "faith", "doubt", "fell", "foo", "x"};
    private static final String[] SIGNS = {";", "(", ")", "+", "-", "*", "/", "<", "="};
    private static final String[] NUMBERS = {"0", "1", "2", "7", "8", "9", "10", "16", "17", "99", "100", "9999",
        "10000", "123456", "0001", "00001", "3"};

    private final Random random;

    RandomText(Random random) {
        this.random = random;
    }

    private int upTo(int most) {
        return random.nextInt(most + 1);
    }

    private String pick(String[] of) {
        return of[random.nextInt(of.length)];
    }

    /** The text as a list of tokens. */
    List<String> town() {
        List<String> t = new ArrayList<>();
        int wards = random.nextInt(12) == 0 ? 0 : 1 + upTo(7);
        int hung = upTo(8);
        int plan = upTo(8);
        int faith = 0;
        for (int w = 0; w < wards; w++) {
            int one = random.nextInt(3) == 0 ? upTo(20) : upTo(99);
            line(t, "ward", one);
            faith += one;
        }
        courses(t, hung, random.nextInt(4) == 0 ? 99 : faith / 10 + upTo(4) - 2);
        for (int c = 0; c < plan; c++) {
            line(t, "plan", 1 + upTo(8), upTo(9));
        }
        if (random.nextInt(3) > 0) {
            line(t, "ground", 2 + upTo(random.nextBoolean() ? 14 : 5));
        }
        if (random.nextInt(3) > 0) {
            line(t, "cost", 1 + upTo(random.nextBoolean() ? 98 : 15));
        }
        boolean[][] told = new boolean[8][8];
        for (int s = 0; wards > 1 && s < upTo(10); s++) {
            int a = random.nextInt(wards);
            int b = random.nextInt(wards);
            if (a != b && !told[a][b]) {
                told[a][b] = true;
                told[b][a] = true;
                line(t, "street", a, b);
            }
        }
        if (random.nextInt(3) > 0) {
            t.add("wind");
            for (int w = 0; w <= upTo(7); w++) {
                t.add("" + upTo(9));
            }
            t.add(";");
        }
        if (random.nextInt(2) > 0) {
            rule(t, "leans");
        }
        if (random.nextInt(2) > 0) {
            rule(t, "gives");
        }
        if (random.nextInt(2) > 0) {
            rule(t, "believes");
        }
        return t;
    }

    /** So many courses hang at most, and not much more than is held, so that it is near to fall. */
    private void courses(List<String> t, int most, int held) {
        int left = held;
        for (int c = 0; c < most && left > -3; c++) {
            int weight = 1 + upTo(8);
            int mortar = random.nextInt(3) == 0 ? 9 : upTo(4);
            line(t, "hung", weight, mortar);
            left += mortar - weight;
        }
    }

    private static void line(List<String> t, String word, int... numbers) {
        t.add(word);
        for (int n : numbers) {
            t.add("" + n);
        }
        t.add(";");
    }

    private void rule(List<String> t, String word) {
        t.add(word);
        if (random.nextInt(3) == 0) {
            usual(t, word);
        } else {
            expr(t, word, 0, 1 + upTo(4));
        }
        t.add(";");
    }

    /** Rules by which something happens, not too much at once. */
    private void usual(List<String> t, String word) {
        String[] leans = {"wind - mortar / 4 + weight / 9", "wind - 3 - ( lean < 9 )", "( weight + day ) / 7 - 2"};
        String[] gives = {"faith / 9 - doubt * 2", "( fell = 0 ) * 5 + height", "1 + day / 5 - lean / 9", "doubt"};
        String[] believes = {"2 - doubt - fell * 4", "( lean < 20 ) * 3 - 1 - fell", "1 + height / 3 - lean / 8",
            "9 - faith / 5", "height * 2 - 5", "0 - 1"};
        String chosen = pick(word.equals("leans") ? leans : word.equals("gives") ? gives : believes);
        t.addAll(List.of(chosen.split(" ")));
    }

    private void expr(List<String> t, String rule, int depth, int size) {
        for (int n = 0; n < random.nextInt(3) && random.nextInt(4) == 0; n++) {
            t.add("not");
        }
        part(t, rule, depth);
        boolean compared = false;
        for (int n = 0; n < size; n++) {
            String operator = pick(new String[] {"+", "-", "*", "/", "<", "=", "or", "and"});
            if (operator.equals("<") || operator.equals("=")) {
                if (compared) {
                    continue;
                }
                compared = true;
            }
            t.add(operator);
            if (operator.equals("or") || operator.equals("and")) {
                compared = false;
                if (random.nextInt(4) == 0) {
                    t.add("not");
                }
            }
            part(t, rule, depth);
        }
    }

    private void part(List<String> t, String rule, int depth) {
        int kind = random.nextInt(5);
        if (kind == 0 && depth < 5) {
            t.add("(");
            expr(t, rule, depth + 1, upTo(2));
            t.add(")");
        } else if (kind <= 2) {
            t.add("" + upTo(random.nextInt(4) == 0 ? 9999 : 20));
        } else {
            String[] leans = {"lean", "height", "day", "wind", "weight", "mortar"};
            String[] wards = {"lean", "height", "day", "faith", "doubt", "fell"};
            t.add(pick(rule.equals("leans") ? leans : wards));
        }
    }

    /** Some tokens are put in, left out, or put in place of others. */
    void spoil(List<String> t) {
        for (int n = 0; n <= upTo(2); n++) {
            int at = random.nextInt(t.size() + 1);
            int kind = random.nextInt(4);
            if (kind == 0 && at < t.size()) {
                t.remove(at);
            } else if (kind == 1 && at < t.size()) {
                t.set(at, any());
            } else if (kind == 2 && at < t.size()) {
                t.addAll(at, t.subList(at, Math.min(t.size(), at + 4)).stream().toList());
            } else {
                t.add(at, any());
            }
        }
    }

    private String any() {
        switch (random.nextInt(8)) {
            case 0: return "" + (char) upTo(255);
            case 1: return "(".repeat(1 + upTo(6));
            case 2: return "not ".repeat(1 + upTo(7));
            case 3: case 4: return pick(WORDS);
            case 5: return pick(SIGNS);
            default: return pick(NUMBERS);
        }
    }

    /** The tokens with blanks between them where they are needed, and here and there else. */
    String joined(List<String> t) {
        StringBuilder text = new StringBuilder();
        for (String token : t) {
            boolean glued = text.length() == 0 || !needsBlank(text.charAt(text.length() - 1), token.charAt(0));
            if (!glued || random.nextInt(12) == 0) {
                text.append(random.nextInt(6) == 0 ? '\n' : ' ');
            }
            text.append(token);
        }
        return text.length() > 700 ? text.substring(0, 700) : text.toString();
    }

    private static boolean needsBlank(char last, char first) {
        boolean digits = Character.isDigit(last) && Character.isDigit(first);
        boolean letters = Character.isLowerCase(last) && Character.isLowerCase(first);
        return digits || letters;
    }
}
