import java.nio.ByteBuffer;
import java.util.function.Supplier;

/** What the tests share: telling a text, and counting answers that are not as due. */
final class Check {
    static final String NO_ELEMENT = "throws.NoSuchElementException";
    static final String ILLEGAL = "throws.IllegalArgumentException";

    private static int wrong = 0;
    private static int checks = 0;
    private static String part = "";

    private Check() {
    }

    static void part(String name) {
        part = name;
    }

    /** The call's answer, or the exception that it throws, must be written as due. */
    static void due(Object due, Supplier<Object> call) {
        checks++;
        String got;
        try {
            got = String.valueOf(call.get());
        } catch (RuntimeException e) {
            got = "throws." + e.getClass().getSimpleName();
        }
        if (!got.equals(String.valueOf(due))) {
            wrong++;
            StackTraceElement at = new Throwable().getStackTrace()[1];
            System.out.println(part + " (" + at.getFileName() + ":" + at.getLineNumber() + "): answered "
                + got + ", due is " + due);
        }
    }

    static void end(String name) {
        System.out.println(name + ": " + checks + " checks, " + wrong + " wrong");
        if (wrong != 0 || checks == 0) {
            System.exit(1);
        }
    }

    /** Feeds the text, with blanks behind it up to twenty bytes; the tape must have been empty. */
    static void feed(CockTower tower, String text) {
        byte[] bytes = new byte[(text.length() + 19) / 20 * 20];
        java.util.Arrays.fill(bytes, (byte) ' ');
        for (int i = 0; i < text.length(); i++) {
            bytes[i] = (byte) text.charAt(i);
        }
        ByteBuffer b = ByteBuffer.wrap(bytes);
        for (int i = 0; i < bytes.length; i += 20) {
            tower.feed(b.getInt(), b.getInt(), b.getInt(), b.getInt(), b.getInt());
        }
    }

    static int tell(CockTower tower, String text) {
        feed(tower, text);
        return tower.town(text.length());
    }

    /** All that can be asked about what is now and what comes of it, but the tape, the fault's place and STATUS. */
    static String told(CockTower x) {
        StringBuilder all = new StringBuilder();
        for (int what = 0; what <= 17; what++) {
            all.append(x.count(what)).append(' ');
        }
        for (int c = 0; c < x.count(0) + x.count(1); c++) {
            all.append("course ").append(x.course(c, 0)).append(x.course(c, 1)).append(x.course(c, 2)).append(' ');
        }
        for (int w = 0; w < x.count(2); w++) {
            all.append("ward ").append(x.ward(w, 0)).append(' ').append(x.ward(w, 1)).append(' ').append(x.ward(w, 3));
            all.append(' ').append(x.wardThen(w, 9, 0)).append(' ').append(x.wardThen(w, 9, 1)).append(' ');
        }
        for (int what = 0; what <= 6; what++) {
            all.append(x.then(9, what)).append(' ');
        }
        for (int what = 0; what <= 2; what++) {
            all.append(x.heavy(what)).append(' ');
        }
        return all.append(x.look(0)).append(' ').append(x.look(1)).toString();
    }

    /** A new tower with a text that must have no fault. */
    static CockTower tower(String text) {
        CockTower tower = new CockTower();
        due(0, () -> tell(tower, text));
        return tower;
    }
}
