import java.nio.ByteBuffer;
import java.util.function.Supplier;

/** What the tests share: telling a text, and counting answers that are not as due. */
final class Check {
    static final String NO_ELEMENT = "throws.NoSuchElementException";
    static final String ILLEGAL = "throws.IllegalArgumentException";

    private static int wrong = 0;
    private static int checks = 0;
    private static String part = "";

    private Check() {
    }

    static void part(String name) {
        part = name;
    }

    /** The call's answer, or the exception that it throws, must be written as due. */
    static void due(Object due, Supplier<Object> call) {
        checks++;
        String got;
        try {
            got = String.valueOf(call.get());
        } catch (RuntimeException e) {
            got = "throws." + e.getClass().getSimpleName();
        }
        if (!got.equals(String.valueOf(due))) {
            wrong++;
            StackTraceElement at = new Throwable().getStackTrace()[1];
            System.out.println(part + " (" + at.getFileName() + ":" + at.getLineNumber() + "): answered "
                + got + ", due is " + due);
        }
    }

    static void end(String name) {
        System.out.println(name + ": " + checks + " checks, " + wrong + " wrong");
        if (wrong != 0 || checks == 0) {
            System.exit(1);
        }
    }

    /** Feeds the text, with blanks behind it up to twenty bytes; the tape must have been empty. */
    static void feed(CockTower tower, String text) {
        byte[] bytes = new byte[(text.length() + 19) / 20 * 20];
        java.util.Arrays.fill(bytes, (byte) ' ');
        for (int i = 0; i < text.length(); i++) {
            bytes[i] = (byte) text.charAt(i);
        }
        ByteBuffer b = ByteBuffer.wrap(bytes);
        for (int i = 0; i < bytes.length; i += 20) {
            tower.feed(b.getInt(), b.getInt(), b.getInt(), b.getInt(), b.getInt());
        }
    }

    static int tell(CockTower tower, String text) {
        feed(tower, text);
        return tower.town(text.length());
    }

    /** A new tower with a text that must have no fault. */
    static CockTower tower(String text) {
        CockTower tower = new CockTower();
        due(0, () -> tell(tower, text));
        return tower;
    }
}
