import java.io.IOException;
import java.lang.reflect.Constructor;
import java.lang.reflect.Field;
import java.lang.reflect.Method;
import java.lang.reflect.Modifier;
import java.nio.file.Files;
import java.nio.file.Path;
import java.util.Arrays;
import java.util.List;
import java.util.Set;
import java.util.TreeSet;
import java.util.stream.Collectors;

/** The public face as the document has it, and some of LANGUAGE.md's rules that can be seen from outside. */
public final class FaceTest {
    private static final String FACE = """
        int apart(int, int) throws NoSuchElementException
        int count(int) throws NoSuchElementException
        int course(int, int) throws NoSuchElementException
        int days(int)
        int falls()
        int far(int, int) throws NoSuchElementException
        int fault()
        int feed(int, int, int, int, int)
        int gales(int, int) throws IllegalArgumentException
        int game(int, int, int) throws NoSuchElementException, IllegalArgumentException
        int give(int)
        int heaviest(int) throws IllegalArgumentException
        int heavy(int) throws NoSuchElementException
        int later(int, int) throws NoSuchElementException, IllegalArgumentException
        int look(int) throws NoSuchElementException
        int mortar(int) throws NoSuchElementException
        int pious(int, int) throws NoSuchElementException, IllegalArgumentException
        int preach(int) throws NoSuchElementException
        int prop()
        int reaches(int) throws IllegalArgumentException
        int row(int, int) throws NoSuchElementException, IllegalArgumentException
        int see(int, int)
        int share(int, int) throws NoSuchElementException, IllegalArgumentException
        int then(int, int) throws NoSuchElementException, IllegalArgumentException
        int through(int, int) throws NoSuchElementException, IllegalArgumentException
        int toMortar(int) throws IllegalArgumentException
        int toPreach(int) throws IllegalArgumentException
        int toProp(int, int) throws NoSuchElementException, IllegalArgumentException
        int town(int) throws IllegalArgumentException
        int undo()
        int ward(int, int) throws NoSuchElementException
        int wardThen(int, int, int) throws NoSuchElementException, IllegalArgumentException
        int years(int, int, int) throws NoSuchElementException, IllegalArgumentException
        boolean restore()
        boolean street(int, int, boolean) throws NoSuchElementException
        void forget()
        void image()
        """;

    /** What the language rules out and can be found as a text; a word's own bounds are blanks or signs. */
    private static final List<String> RULED_OUT = List.of(
        "\\btry\\b", "\\bcatch\\b", "\\bfinally\\b", "\\bsynchronized\\b", "\\bassert\\b", "->", "::",
        "\\bdouble\\b", "\\bfloat\\b", "\\bpackage\\b", "\\bprotected\\b", "\\bstatic \\{", "Exact\\(",
        "\\bSystem\\.(?!arraycopy)", "\\b(Integer|Long|Math)\\.[A-Z]", "\\bhashCode\\b", "\\btoString\\b",
        "\\bnew [A-Za-z]+\\[\\w+\\]\\[");

    public static void main(String[] args) throws IOException {
        face();
        members(CockTower.class);
        for (Class<?> inside : CockTower.class.getDeclaredClasses()) {
            Check.part("class " + inside.getSimpleName());
            Check.due(true, () -> Modifier.isStatic(inside.getModifiers()));
            Check.due(false, () -> Modifier.isPublic(inside.getModifiers()));
            Check.due(false, () -> Modifier.isProtected(inside.getModifiers()));
        }
        classes();
        source(Files.readString(Path.of("src/main/java/CockTower.java")));
        Check.end("FaceTest");
    }

    private static String written(Method m) {
        String throwsWhat = Arrays.stream(m.getExceptionTypes()).map(Class::getSimpleName)
            .collect(Collectors.joining(", "));
        return m.getReturnType() + " " + m.getName() + "("
            + Arrays.stream(m.getParameterTypes()).map(Class::getName).collect(Collectors.joining(", ")) + ")"
            + (throwsWhat.isEmpty() ? "" : " throws " + throwsWhat);
    }

    private static void face() {
        Check.part("the face");
        Set<String> due = new TreeSet<>(FACE.lines().map(String::strip).toList());
        Set<String> got = new TreeSet<>();
        for (Method m : CockTower.class.getDeclaredMethods()) {
            if (Modifier.isPublic(m.getModifiers())) {
                got.add(written(m));
            }
        }
        Check.due(due, () -> got);
        Check.due(true, () -> Modifier.isPublic(CockTower.class.getModifiers()));
        Check.due(true, () -> Modifier.isFinal(CockTower.class.getModifiers()));
        Check.due("[NONE]", () -> Arrays.stream(CockTower.class.getDeclaredFields())
            .filter(f -> Modifier.isPublic(f.getModifiers())).map(Field::getName).toList());
        Check.due(1, () -> CockTower.class.getDeclaredConstructors().length);
    }

    private static void members(Class<?> of) {
        Check.part("members");
        for (Method m : of.getDeclaredMethods()) {
            int modifiers = m.getModifiers();
            Check.due(true, () -> Modifier.isPublic(modifiers) || Modifier.isPrivate(modifiers));
        }
        for (Field f : of.getDeclaredFields()) {
            int modifiers = f.getModifiers();
            Check.due(true, () -> Modifier.isPrivate(modifiers) || f.getName().equals("NONE"));
        }
        for (Constructor<?> c : of.getDeclaredConstructors()) {
            Check.due(0, c::getParameterCount);
        }
    }

    private static void classes() {
        Set<String> names = Arrays.stream(CockTower.class.getDeclaredMethods())
            .filter(m -> Modifier.isPublic(m.getModifiers())).map(Method::getName).collect(Collectors.toSet());
        List<Class<?>> all = new java.util.ArrayList<>(List.of(CockTower.class.getDeclaredClasses()));
        all.add(CockTower.class);
        for (Class<?> one : all) {
            Check.part("class " + one.getSimpleName());
            for (Field f : one.getDeclaredFields()) {
                boolean isStatic = Modifier.isStatic(f.getModifiers());
                Check.due(true, () -> !isStatic || Modifier.isFinal(f.getModifiers()));
            }
            Check.due(true, () -> Arrays.stream(one.getDeclaredFields())
                .filter(f -> !Modifier.isStatic(f.getModifiers())).count() <= 20);
            for (Method m : one.getDeclaredMethods()) {
                boolean isFace = one == CockTower.class && Modifier.isPublic(m.getModifiers());
                Check.due(true, () -> isFace || !names.contains(m.getName()));
                Check.due(true, () -> m.getParameterCount() <= 7);
            }
        }
        Check.due(true, () -> all.size() <= 12);
    }

    private static void source(String text) {
        Check.part("the source");
        String code = text.replaceAll("(?s)/\\*.*?\\*/", "").replaceAll("//[^\n]*", "");
        for (String pattern : RULED_OUT) {
            Check.part("the source: " + pattern);
            Check.due(false, () -> java.util.regex.Pattern.compile(pattern).matcher(code).find());
        }
        Check.part("the source: signs");
        Check.due(true, () -> text.chars().allMatch(c -> c == 10 || c >= 32 && c < 127));
        Check.part("the source: imports");
        Check.due("[import java.util.Arrays;, import java.util.NoSuchElementException;]",
            () -> text.lines().filter(l -> l.startsWith("import")).toList());
        methodLengths(text);
    }

    /** A method begins with a line that ends in ") {" and ends with a brace as far in as it begins. */
    private static void methodLengths(String text) {
        List<String> lines = text.lines().toList();
        for (int i = 0; i < lines.size(); i++) {
            String line = lines.get(i);
            String in = line.substring(0, line.length() - line.stripLeading().length());
            boolean method = line.matches("(    |        )(public|private|static|int|void|boolean|Town|Word).*\\).*\\{");
            if (method) {
                int end = i;
                while (!lines.get(end).equals(in + "}")) {
                    end++;
                }
                int length = end - i + 1;
                Check.part("the length of " + line.strip());
                Check.due(true, () -> length <= 60);
            }
        }
    }
}
