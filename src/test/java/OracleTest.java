import java.lang.reflect.InvocationTargetException;
import java.lang.reflect.Method;
import java.lang.reflect.Modifier;
import java.util.ArrayList;
import java.util.List;
import java.util.Map;
import java.util.Random;
import java.util.TreeMap;

/** Puts the same calls, drawn by a seed, to the class and to the oracle. */
public final class OracleTest {
    private static int wrong = 0;
    private static final Map<String, Integer> CALLS = new TreeMap<>();
    private static final Map<Integer, Integer> FAULTS = new TreeMap<>();

    public static void main(String[] args) {
        long seed = args.length > 0 ? Long.parseLong(args[0]) : 20261118L;
        int runs = args.length > 1 ? Integer.parseInt(args[1]) : 1000;
        List<Method> face = new ArrayList<>();
        for (Method m : CockTower.class.getDeclaredMethods()) {
            if (Modifier.isPublic(m.getModifiers())) {
                face.add(m);
            }
        }
        face.sort((a, b) -> a.getName().compareTo(b.getName()));
        for (int run = 0; run < runs && wrong < 10; run++) {
            oneRun(new Random(seed + run), run, face);
        }
        for (int run = 0; run < 20 * runs && wrong < 10; run++) {
            oneText(new Random(seed - 1 - run), run);
        }
        System.out.println("faults met: " + FAULTS);
        for (Method m : face) {
            if (CALLS.getOrDefault(m.getName(), 0) == 0) {
                wrong++;
                System.out.println(m.getName() + " was never called");
            }
        }
        System.out.println(wrong == 0 ? "the class answers as the oracle" : wrong + " answers differ");
        if (wrong != 0) {
            System.exit(1);
        }
    }

    private static void oneRun(Random random, int run, List<Method> face) {
        CockTower tower = new CockTower();
        Oracle oracle = new Oracle();
        StringBuilder story = new StringBuilder();
        RandomText texts = new RandomText(random);
        int calls = 30 + random.nextInt(60);
        if (random.nextInt(8) > 0) {
            tell(texts.joined(texts.town()), tower, oracle, story, run, random);
        }
        if (random.nextInt(20) == 0) {
            actMuch(tower, oracle, story, run, random);
        }
        for (int c = 0; c < calls && wrong < 10; c++) {
            if (random.nextInt(60) == 0) {
                List<String> t = texts.town();
                if (random.nextBoolean()) {
                    texts.spoil(t);
                }
                tell(texts.joined(t), tower, oracle, story, run, random);
            } else if (random.nextInt(12) == 0) {
                seeWhatIs(tower, oracle, story, run, random);
            } else {
                Method m = face.get(random.nextInt(face.size()));
                boolean rare = List.of("town", "feed", "forget", "image").contains(m.getName());
                if (!rare || random.nextInt(m.getName().equals("town") ? 100 : 6) == 0) {
                    both(m.getName(), arguments(m, oracle, random), tower, oracle, story, run);
                }
            }
        }
        for (int what = 0; what <= 21; what++) {
            both("count", new Object[] {what}, tower, oracle, story, run);
        }
    }

    /** More acts than are kept, and more undone than were. */
    private static void actMuch(CockTower tower, Oracle oracle, StringBuilder story, int run, Random random) {
        int acts = 30 + random.nextInt(30);
        for (int i = 0; i < acts; i++) {
            int kind = random.nextInt(5);
            Object[] one = {1 + random.nextInt(3)};
            both(kind == 0 ? "days" : kind == 1 ? "prop" : "give", kind == 1 ? new Object[0] : one,
                tower, oracle, story, run);
            if (random.nextInt(20) == 0) {
                both(random.nextBoolean() ? "image" : "restore", new Object[0], tower, oracle, story, run);
            }
        }
        int undone = random.nextInt(50);
        for (int i = 0; i < undone; i++) {
            both("undo", new Object[0], tower, oracle, story, run);
        }
    }

    private static void oneText(Random random, int run) {
        CockTower tower = new CockTower();
        Oracle oracle = new Oracle();
        RandomText texts = new RandomText(random);
        List<String> t = texts.town();
        texts.spoil(t);
        tell(texts.joined(t), tower, oracle, new StringBuilder(), -run, random);
    }

    private static void tell(String text, CockTower tower, Oracle oracle, StringBuilder story, int run, Random random) {
        if (oracle.tape.size() > 0) {
            both("town", new Object[] {0}, tower, oracle, story, run);
        }
        byte[] bytes = new byte[(text.length() + 19) / 20 * 20];
        for (int i = 0; i < text.length(); i++) {
            bytes[i] = (byte) text.charAt(i);
        }
        java.nio.ByteBuffer buffer = java.nio.ByteBuffer.wrap(bytes);
        for (int i = 0; i < bytes.length; i += 20) {
            Object[] five = new Object[5];
            for (int k = 0; k < 5; k++) {
                five[k] = buffer.getInt();
            }
            both("feed", five, tower, oracle, story, run);
        }
        story.append("  [").append(text).append("]\n");
        int cut = random.nextInt(10) == 0 ? random.nextInt(text.length() + 1) : text.length();
        Object fault = both("town", new Object[] {cut}, tower, oracle, story, run);
        if (fault instanceof Integer f) {
            FAULTS.merge(f, 1, Integer::sum);
        }
        both("fault", new Object[0], tower, oracle, story, run);
    }

    /** What is seen at random hardly ever fits: here it is what would be, perhaps with another weight. */
    private static void seeWhatIs(CockTower tower, Oracle oracle, StringBuilder story, int run, Random random) {
        Oracle.World w = oracle.world.copy();
        if (!w.hung.isEmpty() && random.nextBoolean()) {
            int c = random.nextInt(w.hung.size());
            w.hung.set(c, new Oracle.Course(1 + random.nextInt(9), w.hung.get(c).mortar()));
        }
        int behind = random.nextInt(21);
        both("see", new Object[] {behind, w.after(behind).lean}, tower, oracle, story, run);
        for (int what = 0; what < 3; what++) {
            both("heavy", new Object[] {what}, tower, oracle, story, run);
        }
        both("look", new Object[] {0}, tower, oracle, story, run);
        both("look", new Object[] {1}, tower, oracle, story, run);
    }

    private static Object[] arguments(Method m, Oracle oracle, Random random) {
        Object[] arguments = new Object[m.getParameterCount()];
        for (int i = 0; i < arguments.length; i++) {
            boolean flag = m.getParameterTypes()[i] == boolean.class;
            arguments[i] = flag ? (Object) random.nextBoolean() : (Object) argument(m.getName(), i, oracle, random);
        }
        return arguments;
    }

    private static int argument(String name, int place, Oracle oracle, Random random) {
        if (random.nextInt(25) == 0) {
            int[] odd = {-1, 0, 61, 60, 22, 100, 17, 21, 20, Integer.MAX_VALUE, Integer.MIN_VALUE};
            return odd[random.nextInt(odd.length)];
        }
        int wards = Math.max(1, oracle.world.faith.size());
        switch (name) {
            case "town": return random.nextInt(1 + oracle.tape.size());
            case "feed": return random.nextInt();
            case "count": return random.nextInt(22);
            case "course": return place == 0 ? random.nextInt(16) : random.nextInt(3);
            case "mortar": return random.nextInt(Math.max(1, oracle.world.hung.size()));
            case "ward": return place == 0 ? random.nextInt(wards) : random.nextInt(4);
            case "days": return 1 + random.nextInt(random.nextBoolean() ? 20 : 3);
            case "give": return 1 + random.nextInt(99);
            case "preach": case "street": case "far": case "apart": return random.nextInt(wards);
            case "then": return place == 0 ? random.nextInt(61) : random.nextInt(7);
            case "wardThen": return place == 0 ? random.nextInt(wards) : place == 1 ? random.nextInt(61) : random.nextInt(2);
            case "reaches": return random.nextInt(17);
            case "later": case "row": case "toProp": return place == 0 ? random.nextInt(61) : random.nextInt(2);
            case "through": return place == 0 ? random.nextInt(61) : random.nextInt(4);
            case "pious": case "share": return place == 0 ? random.nextInt(wards) : random.nextInt(61);
            case "toPreach": case "toMortar": case "heaviest": return random.nextInt(30);
            case "see": return place == 0 ? random.nextInt(21) : random.nextInt(100);
            case "heavy": return random.nextInt(3);
            case "look": return random.nextInt(2);
            case "gales": return place == 0 ? 1 + random.nextInt(5) : random.nextInt(11);
            case "game": return place < 2 ? random.nextInt(wards) : random.nextInt(2);
            case "years": return place == 0 ? random.nextInt() : place == 1 ? random.nextInt(61) : random.nextInt(3);
            default: return random.nextInt(10);
        }
    }

    private static Object both(String name, Object[] arguments, CockTower tower, Oracle oracle,
            StringBuilder story, int run) {
        CALLS.merge(name, 1, Integer::sum);
        Object got = answer(tower, name, arguments);
        Object due = answer(oracle, name, arguments);
        story.append("  ").append(name).append(List.of(arguments)).append(" -> ").append(due).append('\n');
        if (!String.valueOf(got).equals(String.valueOf(due))) {
            wrong++;
            System.out.println("run " + run + ":\n" + story + "  but the class answered " + got);
        }
        return due;
    }

    private static Object answer(Object on, String name, Object[] arguments) {
        for (Method m : on.getClass().getDeclaredMethods()) {
            if (m.getName().equals(name) && Modifier.isPublic(m.getModifiers())) {
                try {
                    return m.invoke(on, arguments);
                } catch (InvocationTargetException e) {
                    return "throws." + e.getCause().getClass().getSimpleName();
                } catch (IllegalAccessException e) {
                    return "no access";
                }
            }
        }
        return "no method";
    }
}
