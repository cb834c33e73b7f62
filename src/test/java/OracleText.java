import java.util.ArrayList;
import java.util.HashSet;
import java.util.List;
import java.util.Map;
import java.util.Set;

/** Reads a text for the oracle: all tokens first, then a tree for each rule. */
final class OracleText {
    private static final Set<String> ALL = Set.of("lean", "height", "day");
    private static final Set<String> OF_LEANS = Set.of("wind", "weight", "mortar");
    private static final Set<String> OF_WARDS = Set.of("faith", "doubt", "fell");

    /** Kinds: w a word, n a number, s a sign, x none, e the end. */
    private record Token(char kind, String text, int place) { }

    private final List<Token> tokens = new ArrayList<>();
    private int i = 0;
    private final Oracle.World world = new Oracle.World();
    private final Set<String> once = new HashSet<>();
    private String rule;

    OracleText(List<Integer> bytes) {
        StringBuilder text = new StringBuilder();
        for (int b : bytes) {
            text.append((char) b);
        }
        java.util.regex.Matcher m =
            java.util.regex.Pattern.compile("([a-z]+)|([0-9]+)|([;()+\\-*/<=])|([ \\n])|([\\s\\S])").matcher(text);
        while (m.find()) {
            if (m.group(4) == null) {
                char kind = m.group(1) != null ? 'w' : m.group(2) != null ? 'n' : m.group(3) != null ? 's' : 'x';
                tokens.add(new Token(kind, m.group(), m.start()));
            }
        }
        tokens.add(new Token('e', "", bytes.size()));
    }

    private Token token() {
        return tokens.get(i);
    }

    private Oracle.Fault fault(int kind) {
        return new Oracle.Fault(kind, token().place());
    }

    private boolean is(String text) {
        return token().text().equals(text);
    }

    Oracle.World town() throws Oracle.Fault {
        while (token().kind() != 'e') {
            line();
            if (!is(";")) {
                throw fault(1);
            }
            i++;
        }
        return world;
    }

    private void line() throws Oracle.Fault {
        String first = token().text();
        if (!Set.of("hung", "plan", "ground", "cost", "ward", "street", "wind", "leans", "gives", "believes")
                .contains(first)) {
            throw fault(1);
        }
        boolean course = first.equals("hung") || first.equals("plan");
        if (course && world.hung.size() + world.plan.size() == 16) {
            throw fault(2);
        }
        if (first.equals("ward") && world.faith.size() == 8) {
            throw fault(2);
        }
        if (!course && !first.equals("ward") && !first.equals("street") && !once.add(first)) {
            throw fault(5);
        }
        i++;
        switch (first) {
            case "hung", "plan" -> {
                int weight = number(1, 9);
                int mortar = number(0, 9);
                (first.equals("hung") ? world.hung : world.plan).add(new Oracle.Course(weight, mortar));
            }
            case "ground" -> world.ground = number(2, 16);
            case "cost" -> world.cost = number(1, 99);
            case "ward" -> world.faith.add(number(0, 99));
            case "street" -> street();
            case "wind" -> {
                world.wind.add(number(0, 9));
                while (token().kind() == 'n') {
                    if (world.wind.size() == 8) {
                        throw fault(2);
                    }
                    world.wind.add(number(0, 9));
                }
            }
            default -> {
                rule = first;
                Oracle.Tree tree = expr(0);
                if (first.equals("leans")) {
                    world.leans = tree;
                } else if (first.equals("gives")) {
                    world.gives = tree;
                } else {
                    world.believes = tree;
                }
            }
        }
    }

    private void street() throws Oracle.Fault {
        int one = toldWard();
        i++;
        int two = toldWard();
        if (one == two || world.streets.contains(Set.of(one, two))) {
            throw fault(4);
        }
        world.streets.add(Set.of(one, two));
        i++;
    }

    private int toldWard() throws Oracle.Fault {
        if (token().kind() != 'n') {
            throw fault(1);
        }
        if (token().text().length() > 4) {
            throw fault(2);
        }
        int ward = Integer.parseInt(token().text());
        if (ward >= world.faith.size()) {
            throw fault(3);
        }
        return ward;
    }

    private int number(int least, int most) throws Oracle.Fault {
        if (token().kind() != 'n') {
            throw fault(1);
        }
        if (token().text().length() > 4) {
            throw fault(2);
        }
        int number = Integer.parseInt(token().text());
        if (number < least || number > most) {
            throw fault(2);
        }
        i++;
        return number;
    }

    private static int bit(boolean b) {
        return b ? 1 : 0;
    }

    private Oracle.Tree expr(int within) throws Oracle.Fault {
        if (within == 6 && (token().kind() == 'n' || token().kind() == 'w' || is("("))) {
            throw fault(2);
        }
        Oracle.Tree left = and(within);
        while (is("or")) {
            i++;
            Oracle.Tree l = left;
            Oracle.Tree r = and(within);
            left = v -> bit(l.value(v) != 0 | r.value(v) != 0);
        }
        return left;
    }

    private Oracle.Tree and(int within) throws Oracle.Fault {
        Oracle.Tree left = not(within, 1);
        while (is("and")) {
            i++;
            Oracle.Tree l = left;
            Oracle.Tree r = not(within, 1);
            left = v -> bit(l.value(v) != 0 & r.value(v) != 0);
        }
        return left;
    }

    private Oracle.Tree not(int within, int which) throws Oracle.Fault {
        if (is("not")) {
            if (which == 7) {
                throw fault(2);
            }
            i++;
            Oracle.Tree of = not(within, which + 1);
            return v -> bit(of.value(v) == 0);
        }
        Oracle.Tree l = sum(within);
        if (is("<") || is("=")) {
            boolean less = is("<");
            i++;
            Oracle.Tree r = sum(within);
            return v -> bit(less ? l.value(v) < r.value(v) : l.value(v) == r.value(v));
        }
        return l;
    }

    private Oracle.Tree sum(int within) throws Oracle.Fault {
        Oracle.Tree left = product(within);
        while (is("+") || is("-")) {
            int way = is("+") ? 1 : -1;
            i++;
            Oracle.Tree l = left;
            Oracle.Tree r = product(within);
            left = v -> l.value(v) + way * r.value(v);
        }
        return left;
    }

    private Oracle.Tree product(int within) throws Oracle.Fault {
        Oracle.Tree left = part(within);
        while (is("*") || is("/")) {
            boolean times = is("*");
            i++;
            Oracle.Tree l = left;
            Oracle.Tree r = part(within);
            left = v -> times ? l.value(v) * r.value(v) : r.value(v) == 0 ? 0 : l.value(v) / r.value(v);
        }
        return left;
    }

    private Oracle.Tree part(int within) throws Oracle.Fault {
        Token t = token();
        if (t.kind() == 'n') {
            if (t.text().length() > 4) {
                throw fault(2);
            }
            i++;
            int n = Integer.parseInt(t.text());
            return v -> n;
        }
        if (t.kind() == 'w') {
            Set<String> own = rule.equals("leans") ? OF_LEANS : OF_WARDS;
            if (!ALL.contains(t.text()) && !own.contains(t.text())) {
                throw fault(3);
            }
            i++;
            return v -> valueIn(v, t.text());
        }
        if (!is("(")) {
            throw fault(1);
        }
        i++;
        Oracle.Tree inner = expr(within + 1);
        if (!is(")")) {
            throw fault(1);
        }
        i++;
        return inner;
    }

    private static int valueIn(Map<String, Integer> values, String name) {
        return values.get(name);
    }
}
