import java.lang.management.ManagementFactory;

/** All calls of a run live in one room: a tower of 512 calls must take little of it. */
public final class RoomTest {
    private static final String TEXT = "hung 2 1;hung 3 0;hung 4 4;plan 4 2;plan 1 0;plan 2 2;plan 3 3;plan 4 4;"
        + "ground 9;cost 5;ward 40;ward 60;ward 5;ward 30;ward 50;ward 20;street 0 1;street 1 2;street 3 4;wind 3 0;"
        + "leans wind-mortar/4+weight/9;gives faith/9-doubt;believes 2-doubt-3*fell;";
    /** A new tower has some 5,000 numbers of 4 bytes; the calls themselves make nothing. */
    private static final long MOST_BYTES = 40_000;

    public static void main(String[] args) {
        Check.part("room");
        com.sun.management.ThreadMXBean threads =
            (com.sun.management.ThreadMXBean) ManagementFactory.getThreadMXBean();
        for (int i = 0; i < 10; i++) {
            run();
        }
        int runs = 20;
        long before = threads.getThreadAllocatedBytes(Thread.currentThread().getId());
        for (int i = 0; i < runs; i++) {
            run();
        }
        long bytes = (threads.getThreadAllocatedBytes(Thread.currentThread().getId()) - before) / runs;
        Check.due(true, () -> bytes < MOST_BYTES);
        System.out.println("a run of 512 calls makes " + bytes + " bytes");
        Check.end("RoomTest");
    }

    private static int run() {
        CockTower x = new CockTower();
        int sum = 0;
        int calls = 0;
        while (calls < 480) {
            calls += TEXT.length() / 20 + 40;
            feed(x);
            sum += x.town(TEXT.length()) + x.fault() + x.count(9) + x.count(13) + x.course(1, 1) + x.ward(1, 3);
            x.image();
            sum += x.days(3) + x.give(5) + x.preach(0) + x.mortar(0) + x.prop() + x.undo();
            sum += x.street(0, 2, true) ? 1 : 0;
            sum += x.then(60, 0) + x.wardThen(0, 60, 1) + x.reaches(16) + x.falls() + x.later(60, 0);
            sum += x.through(60, 2) + x.pious(0, 60) + x.far(0, 5) + x.apart(0, 2) + x.toPreach(20);
            sum += x.row(20, 1) + x.toMortar(20) + x.see(1, 3) + x.heavy(0) + x.look(0) + x.gales(5, 3);
            sum += x.game(0, 1, 0) + x.years(7, 60, 2) + x.share(0, 60) + x.heaviest(60) + x.toProp(60, 0);
            x.forget();
            sum += x.restore() ? 1 : 0;
        }
        return sum;
    }

    private static void feed(CockTower x) {
        for (int i = 0; i < TEXT.length(); i += 20) {
            x.feed(four(i), four(i + 4), four(i + 8), four(i + 12), four(i + 16));
        }
    }

    private static int four(int at) {
        int word = 0;
        for (int i = at; i < at + 4; i++) {
            word = word << 8 | (i < TEXT.length() ? TEXT.charAt(i) : ' ');
        }
        return word;
    }
}
