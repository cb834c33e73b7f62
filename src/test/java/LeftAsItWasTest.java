import java.util.ArrayList;
import java.util.List;
import java.util.function.Supplier;

/**
 * What a refused call, a call that throws and a question leave as it was: two towers are made alike, one is
 * called, and all that can be asked, undone, restored and read from the tape must be the same of both.
 */
public final class LeftAsItWasTest {
    private static final int NONE = CockTower.NONE;
    private static final int MIN = Integer.MIN_VALUE;
    private static final int MAX = Integer.MAX_VALUE;

    private static final String TEXT = "hung 2 9;hung 3 0;plan 4 2;plan 1 0;ground 4;cost 5;"
        + "ward 99;ward 60;ward 5;street 0 1;street 1 2;wind 3 0;believes 0;";

    public static void main(String[] args) {
        ofATowerInUse();
        ofAFullOne();
        ofANewOne();
        questionsOf(LeftAsItWasTest::inUse, "in use");
        questionsOf(LeftAsItWasTest::full, "full");
        questionsOf(CockTower::new, "new");
        Check.end("LeftAsItWasTest");
    }

    /** With acts, an image, what is seen, a fault's place, bytes on the tape; LEAN is 0, ward 0 has 99, course 0 has 9. */
    private static CockTower inUse() {
        CockTower x = Check.tower(TEXT);
        Check.tell(x, "ward 1;x");
        x.days(1);
        x.give(3);
        x.see(1, 3);
        x.image();
        x.prop();
        x.see(2, 3);
        Check.feed(x, "ward 77;hung 4 4;");
        return x;
    }

    /** 40 acts, 8 seen, 700 bytes on the tape. */
    private static CockTower full() {
        CockTower x = Check.tower("hung 1 9;".repeat(8) + "plan 1 9;".repeat(8) + "ward 99;".repeat(8) + "ground 16;wind 0;");
        for (int i = 0; i < 45; i++) {
            x.give(1);
        }
        for (int i = 0; i < 8; i++) {
            x.see(i, 0);
        }
        x.image();
        Check.feed(x, " ".repeat(680) + "ward 12;ward 34;    ");
        return x;
    }

    /** All that can be learned of a tower; it is used up by that. */
    private static String all(CockTower x) {
        StringBuilder all = new StringBuilder(Check.told(x));
        all.append(" fault ").append(x.fault()).append(" tape ").append(x.count(18));
        undoSome(x, all);
        all.append(" restored ").append(x.restore()).append(' ').append(x.count(16)).append(' ').append(x.count(17));
        undoSome(x, all);
        all.append(" town ").append(x.town(x.count(18))).append(" at ").append(x.fault()).append(' ').append(Check.told(x));
        return all.toString();
    }

    private static void undoSome(CockTower x, StringBuilder all) {
        for (int i = 0; i < 4; i++) {
            all.append(" undo ").append(x.undo());
            for (int what = 0; what <= 8; what++) {
                all.append(' ').append(x.count(what));
            }
        }
        int left = 0;
        while (x.undo() != NONE) {
            left++;
        }
        all.append(" and ").append(left).append(" more: ").append(x.count(4));
    }

    private static String status(CockTower x) {
        return x.count(19) + " " + x.count(20) + " " + x.count(21);
    }

    private interface Call {
        Object on(CockTower x);
    }

    /** The call on a tower that is made so answers as due, counts one more in that STATUS, and changes nothing else. */
    private static void leaves(Supplier<CockTower> made, Object due, int status, Call call) {
        CockTower one = made.get();
        int[] counts = {one.count(19), one.count(20), one.count(21)};
        if (status >= 0) {
            counts[status]++;
        }
        Check.due(due, () -> call.on(one));
        Check.due(counts[0] + " " + counts[1] + " " + counts[2], () -> status(one));
        String alike = all(made.get());
        Check.due(alike, () -> all(one));
    }

    private static void ofATowerInUse() {
        Supplier<CockTower> use = LeftAsItWasTest::inUse;
        Check.part("in use: town");
        for (int n : new int[] {MIN, -1, 21, 700, MAX}) {
            leaves(use, Check.ILLEGAL, -1, x -> x.town(n));
        }
        Check.part("in use: days");
        for (int many : new int[] {MIN, -1, 0, 21, MAX}) {
            leaves(use, NONE, 1, x -> x.days(many));
        }
        Check.part("in use: give");
        for (int gift : new int[] {MIN, -1, 0, 100, MAX}) {
            leaves(use, NONE, 1, x -> x.give(gift));
        }
        Check.part("in use: preach");
        leaves(use, NONE, 1, x -> x.preach(0));
        for (int ward : new int[] {MIN, -1, 3, 8, MAX}) {
            leaves(use, Check.NO_ELEMENT, -1, x -> x.preach(ward));
        }
        Check.part("in use: mortar");
        leaves(use, NONE, 1, x -> x.mortar(0));
        for (int course : new int[] {MIN, -1, 3, 4, 16, MAX}) {
            leaves(use, Check.NO_ELEMENT, -1, x -> x.mortar(course));
        }
        Check.part("in use: prop");
        leaves(use, NONE, 1, CockTower::prop);
        Check.part("in use: street");
        leaves(use, false, 1, x -> x.street(0, 1, true));
        leaves(use, false, 1, x -> x.street(2, 1, true));
        leaves(use, false, 1, x -> x.street(0, 2, false));
        leaves(use, false, 1, x -> x.street(1, 1, true));
        leaves(use, false, 1, x -> x.street(1, 1, false));
        for (int ward : new int[] {MIN, -1, 3, MAX}) {
            leaves(use, Check.NO_ELEMENT, -1, x -> x.street(ward, 0, true));
            leaves(use, Check.NO_ELEMENT, -1, x -> x.street(0, ward, false));
        }
        Check.part("in use: see");
        for (int[] wrong : new int[][] {{-1, 0}, {21, 0}, {0, -1}, {0, 100}, {MIN, MIN}, {MAX, MAX}}) {
            leaves(use, NONE, 2, x -> x.see(wrong[0], wrong[1]));
        }
    }

    private static void ofAFullOne() {
        Supplier<CockTower> full = LeftAsItWasTest::full;
        Check.part("full: feed");
        leaves(full, NONE, -1, x -> x.feed(0x77617264, 0x20353b20, 0, -1, MIN));
        Check.part("full: town");
        leaves(full, Check.ILLEGAL, -1, x -> x.town(701));
        leaves(full, Check.ILLEGAL, -1, x -> x.town(-1));
        Check.part("full: see");
        leaves(full, NONE, 2, x -> x.see(0, 0));
        leaves(full, NONE, 2, x -> x.see(20, 99));
        leaves(full, NONE, 2, x -> x.see(21, 100));
        Check.part("full: acts");
        leaves(full, NONE, 1, x -> x.preach(7));
        leaves(full, Check.NO_ELEMENT, -1, x -> x.preach(8));
        leaves(full, NONE, 1, x -> x.mortar(7));
        leaves(full, Check.NO_ELEMENT, -1, x -> x.mortar(8));
        leaves(full, NONE, 1, CockTower::prop);
        leaves(full, false, 1, x -> x.street(0, 7, false));
        leaves(full, NONE, 1, x -> x.days(21));
        leaves(full, NONE, 1, x -> x.give(100));
    }

    private static void ofANewOne() {
        Supplier<CockTower> none = CockTower::new;
        Check.part("new");
        leaves(none, NONE, -1, CockTower::undo);
        leaves(none, false, -1, CockTower::restore);
        leaves(none, NONE, 1, CockTower::prop);
        leaves(none, NONE, 1, x -> x.days(0));
        leaves(none, NONE, 1, x -> x.give(0));
        leaves(none, NONE, 2, x -> x.see(0, -1));
        leaves(none, Check.NO_ELEMENT, -1, x -> x.preach(0));
        leaves(none, Check.NO_ELEMENT, -1, x -> x.mortar(0));
        leaves(none, Check.NO_ELEMENT, -1, x -> x.street(0, 0, true));
        leaves(none, Check.ILLEGAL, -1, x -> x.town(1));
        leaves(none, NONE, -1, CockTower::fault);
    }

    /** Each question, with what is allowed and what is not: no answer counts here, only that nothing changes. */
    private static void questionsOf(Supplier<CockTower> made, String name) {
        List<Call> calls = new ArrayList<>();
        int[] odd = {MIN, -1, 0, 1, 2, 5, 60, 61, MAX};
        for (int a : odd) {
            calls.add(x -> x.count(a));
            calls.add(x -> x.reaches(a));
            calls.add(x -> x.toPreach(a));
            calls.add(x -> x.toMortar(a));
            calls.add(x -> x.heavy(a));
            calls.add(x -> x.look(a));
            calls.add(x -> x.heaviest(a));
            for (int b : new int[] {-1, 0, 1, 2, 11}) {
                calls.add(x -> x.course(a, b));
                calls.add(x -> x.ward(a, b));
                calls.add(x -> x.then(a, b));
                calls.add(x -> x.later(a, b));
                calls.add(x -> x.through(a, b));
                calls.add(x -> x.pious(b, a));
                calls.add(x -> x.far(a, b));
                calls.add(x -> x.apart(a, b));
                calls.add(x -> x.row(a, b));
                calls.add(x -> x.gales(a, b));
                calls.add(x -> x.share(b, a));
                calls.add(x -> x.toProp(a, b));
                calls.add(x -> x.wardThen(b, a, 1));
                calls.add(x -> x.game(a, b, 1));
                calls.add(x -> x.years(a, b, 0));
                calls.add(x -> x.years(b, a, 2));
            }
        }
        calls.add(CockTower::falls);
        calls.add(CockTower::fault);
        Check.part("questions of a tower, " + name);
        CockTower two = made.get();
        String before = status(two);
        String alike = all(two);
        for (int from = 0; from < calls.size(); from += 20) {
            CockTower one = made.get();
            for (int i = from; i < from + 20 && i < calls.size(); i++) {
                Call call = calls.get(i);
                Check.due(true, () -> answersOrThrows(call, one));
            }
            Check.due(before, () -> status(one));
            Check.due(alike, () -> all(one));
        }
    }

    /** Nothing but the document's two exceptions reaches the caller. */
    private static boolean answersOrThrows(Call call, CockTower x) {
        try {
            return call.on(x) != null;
        } catch (RuntimeException e) {
            return e.getClass() == IllegalArgumentException.class || e.getClass() == java.util.NoSuchElementException.class;
        }
    }
}
