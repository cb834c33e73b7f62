/** For each promise some calls whose answers were worked out by hand from the document. */
public final class PromisesTest {
    private static final int NONE = CockTower.NONE;
    private static final int MIN = Integer.MIN_VALUE;
    private static final int MAX = Integer.MAX_VALUE;

    /**
     * Gives 5 a day, so that a course comes under on each of the first two days; leans by 3 every other
     * day; ward 1 is kept at 60 by doubt beside it until ward 2 has 10.
     */
    private static final String SMALL = "hung 2 1;hung 3 0;plan 4 2;plan 1 0;ground 4;cost 5;"
        + "ward 40;ward 60;ward 5;street 0 1;street 1 2;wind 3 0;";

    /** 14 and 1 for its lean against 5: both courses fall on the first day. */
    private static final String FALLING = "hung 9 0;hung 5 0;ground 5;ward 50;wind 9;";

    public static void main(String[] args) {
        newObject();
        feed();
        town();
        townForgets();
        fault();
        countNow();
        countBears();
        countEven();
        countStatus();
        course();
        ward();
        days();
        daysLast();
        dayInItsOrder();
        dayWithinBounds();
        give();
        preach();
        mortar();
        prop();
        street();
        undo();
        undoKeeps40();
        then();
        wardThen();
        reaches();
        falls();
        later();
        through();
        pious();
        far();
        apart();
        toPreach();
        row();
        toMortar();
        see();
        heavy();
        look();
        gales();
        game();
        years();
        share();
        heaviest();
        toProp();
        image();
        Check.end("PromisesTest");
    }

    private static void newObject() {
        Check.part("1 a new object");
        Check.due(-1, () -> CockTower.NONE);
        CockTower x = new CockTower();
        for (int what = 0; what <= 21; what++) {
            int w = what;
            Check.due(0, () -> x.count(w));
        }
        Check.due(NONE, x::fault);
        Check.due(Check.NO_ELEMENT, () -> x.course(0, 0));
        Check.due(Check.NO_ELEMENT, () -> x.ward(0, 0));
        Check.due(false, x::restore);
        Check.due(NONE, x::undo);
        // Without a text the wind is 2, nobody gives, and it takes 9 courses.
        Check.due(99, () -> x.then(60, 2));
        Check.due(8, () -> x.then(4, 2));
        Check.due(0, () -> x.then(60, 3));
        Check.due(20, () -> x.days(20));
        Check.due(40, () -> x.count(5));
    }

    private static void feed() {
        Check.part("2 feed");
        CockTower x = new CockTower();
        // "hung", " 7 8", ";war", "d 77", ";   "
        Check.due(20, () -> x.feed(0x68756e67, 0x20372038, 0x3b776172, 0x64203737, 0x3b202020));
        Check.due(20, () -> x.count(18));
        Check.due(0, () -> x.town(20));
        Check.due(7, () -> x.course(0, 0));
        Check.due(8, () -> x.course(0, 1));
        Check.due(77, () -> x.ward(0, 0));
        Check.due(0, () -> x.count(18));
        for (int i = 1; i <= 35; i++) {
            int bytes = 20 * i;
            Check.due(bytes, () -> x.feed(0x20202020, 0x20202020, 0x20202020, 0x20202020, 0x20202020));
        }
        Check.due(NONE, () -> x.feed(0, 0, 0, 0, 0));
        Check.due(700, () -> x.count(18));
        Check.due(0, () -> x.town(700));
        // The sign of a number does not reach its other bytes.
        x.feed(0x77617264, 0x2037ff3b, 0, 0, 0);
        Check.due(1, () -> x.town(8));
        Check.due(6, x::fault);
    }

    private static void town() {
        Check.part("3 town");
        CockTower x = new CockTower();
        Check.due(Check.ILLEGAL, () -> x.town(1));
        Check.due(Check.ILLEGAL, () -> x.town(-1));
        Check.due(Check.ILLEGAL, () -> x.town(MIN));
        Check.due(Check.ILLEGAL, () -> x.town(MAX));
        Check.due(0, () -> x.town(0));
        Check.feed(x, "ward 5;ward 6;hung");
        Check.due(Check.ILLEGAL, () -> x.town(21));
        Check.due(20, () -> x.count(18));
        Check.due(0, () -> x.count(19));
        Check.due(0, () -> x.town(7));
        Check.due(1, () -> x.count(2));
        Check.due(0, () -> x.count(18));
        Check.due(Check.ILLEGAL, () -> x.town(1));
        // A fault leaves all as it is, but for the tape.
        Check.due(1, () -> Check.tell(x, "ward 9;ward 9;hung"));
        Check.due(1, () -> x.count(2));
        Check.due(5, () -> x.ward(0, 0));
        Check.due(0, () -> x.count(18));
        Check.due(1, () -> x.count(19));
        Check.due(18, x::fault);
        Check.due(Check.ILLEGAL, () -> x.town(1));
        Check.due(18, x::fault);
        // What one text tells does not stay for the next one.
        Check.due(0, () -> Check.tell(x, "ground 2;cost 1;wind 9;leans 1;gives 3;believes 5;ward 1;hung 1 1;plan 1 1;"));
        Check.due(0, () -> Check.tell(x, "ward 40;plan 1 1;"));
        Check.due(0, () -> x.count(0));
        Check.due(2, () -> x.then(1, 2));
        Check.due(2, () -> x.wardThen(0, 1, 1));
        Check.due(41, () -> x.wardThen(0, 1, 0));
        Check.due(5, () -> x.reaches(1));
        Check.due(0, () -> Check.tell(x, "ward 40;plan 1 1;" + "hung 9 0;".repeat(8)));
        Check.due(0, () -> x.count(10));
        Check.due(0, () -> Check.tell(x, "ward 40;plan 1 1;" + "hung 9 0;".repeat(9)));
        Check.due(1, () -> x.count(10));
        Check.due(0, () -> Check.tell(x, "ward 40;plan 1 1;"));
        Check.due(5, () -> x.reaches(1));
        // A text with a fault behind its rules leaves the rules that are.
        Check.due(1, () -> Check.tell(x, "ground 2;cost 1;wind 9;leans 1;gives 3;believes 5;ward 1;x"));
        Check.due(2, () -> x.then(1, 2));
        Check.due(5, () -> x.reaches(1));
    }

    private static void townForgets() {
        Check.part("3 town, acts and the image");
        CockTower x = Check.tower(SMALL);
        x.give(9);
        x.days(3);
        x.see(0, 0);
        x.image();
        x.give(0);
        Check.due(1, () -> Check.tell(x, "x"));
        Check.due(2, () -> x.count(16));
        Check.due(1, () -> x.count(17));
        Check.due(true, x::restore);
        Check.due(0, () -> Check.tell(x, SMALL));
        Check.due(0, () -> x.count(16));
        Check.due(0, () -> x.count(17));
        Check.due(false, x::restore);
        Check.due(NONE, x::undo);
        Check.due(0, () -> x.count(3));
        Check.due(0, () -> x.count(4));
        Check.due(0, () -> x.count(5));
        Check.due(0, () -> x.count(11));
        Check.due(1, () -> x.count(19));
        Check.due(1, () -> x.count(20));
        CockTower y = Check.tower(FALLING);
        y.days(1);
        Check.due(2, () -> y.count(11));
        Check.due(0, () -> Check.tell(y, FALLING));
        Check.due(0, () -> y.count(11));
    }

    private static void fault() {
        Check.part("4 fault");
        CockTower x = new CockTower();
        Check.due(NONE, x::fault);
        Check.due(2, () -> Check.tell(x, "ward 5;ward 100;"));
        Check.due(12, x::fault);
        Check.due(1, () -> Check.tell(x, "ward 5 "));
        Check.due(7, x::fault);
        Check.due(0, () -> x.town(0));
        Check.due(NONE, x::fault);
    }

    private static void countNow() {
        Check.part("5 count");
        CockTower x = Check.tower(SMALL);
        int[] due = {2, 2, 3, 0, 0, 0, 5, 11, 6, 2, 0, 0, 1, 15, 5, 4, 0, 0, 0, 0, 0, 0};
        for (int what = 0; what < due.length; what++) {
            int w = what;
            Check.due(due[w], () -> x.count(w));
        }
        Check.due(Check.NO_ELEMENT, () -> x.count(22));
        Check.due(Check.NO_ELEMENT, () -> x.count(-1));
        Check.due(Check.NO_ELEMENT, () -> x.count(MAX));
        Check.due(Check.NO_ELEMENT, () -> x.count(MIN));
        x.days(3);
        // 4 hang, 10 heavy; faith 43, 60, 8 and 3 of mortar; it leans by 6.
        int[] behind3 = {4, 0, 3, 3, 5, 6, 10, 14, 3, 0, 1, 0, 1, 9, 5, 4, 1, 0, 0, 0, 0, 0};
        for (int what = 0; what < behind3.length; what++) {
            int w = what;
            Check.due(behind3[w], () -> x.count(w));
        }
        CockTower y = Check.tower(FALLING);
        Check.due(-9, () -> y.count(8));
        y.days(1);
        Check.due(2, () -> y.count(11));
        // Nothing hangs, faith is 45, it leans by 9.
        Check.due(3, () -> y.count(8));
        y.days(1);
        Check.due(0, () -> y.count(11));
        CockTower z = Check.tower("ward 1;ward 1;ward 1;ward 1;ward 1;street 0 3;street 4 1;");
        Check.due(3, () -> z.count(12));
        Check.due(2, () -> Check.tower("ward 1;ward 1;").count(12));
        Check.due(1, () -> Check.tower("ward 1;ward 1;ward 1;street 0 1;street 0 2;").count(12));
    }

    private static void countBears() {
        Check.part("5 count, BEARS");
        // One more is too heavy, two are not: the second one brings mortar.
        Check.due(2, () -> Check.tower("ward 50;plan 9 0;plan 1 9;").count(9));
        Check.due(0, () -> Check.tower("ward 50;plan 9 0;plan 9 0;").count(9));
        Check.due(1, () -> Check.tower("ward 50;plan 5 0;plan 1 0;").count(9));
        // What hangs may be too heavy itself.
        Check.due(0, () -> Check.tower("ward 50;hung 6 0;plan 1 1;").count(9));
        Check.due(1, () -> Check.tower("ward 50;hung 6 0;plan 1 2;").count(9));
        // It is done, and counts all the same.
        Check.due(1, () -> Check.tower("ground 2;ward 50;hung 1 0;hung 1 0;plan 3 0;plan 1 0;").count(9));
        CockTower x = Check.tower("ward 50;hung 1 0;plan 3 0;plan 1 0;wind 5;believes 0;");
        Check.due(2, () -> x.count(9));
        x.days(1);
        Check.due(1, () -> x.count(9));
    }

    private static void countEven() {
        Check.part("5 count, EVEN");
        CockTower one = Check.tower("ward 7;");
        Check.due(7, () -> one.count(13));
        Check.due(1, () -> one.count(14));
        CockTower like = Check.tower("ward 5;ward 5;ward 5;ward 5;");
        Check.due(0, () -> like.count(13));
        Check.due(3, () -> like.count(14));
        CockTower zeros = Check.tower("ward 0;ward 0;");
        Check.due(0, () -> zeros.count(13));
        Check.due(1, () -> zeros.count(14));
        CockTower eight = Check.tower("ward 99;ward 1;ward 2;ward 3;ward 4;ward 5;ward 6;ward 9;");
        Check.due(69, () -> eight.count(13));
        Check.due(1, () -> eight.count(14));
        CockTower last = Check.tower("ward 10;ward 30;ward 20;ward 0;");
        Check.due(0, () -> last.count(13));
        Check.due(5, () -> last.count(14));
    }

    private static void countStatus() {
        Check.part("5 count, STATUS");
        CockTower x = Check.tower(SMALL);
        Check.tell(x, "x");
        Check.tell(x, "y");
        x.give(0);
        x.see(21, 0);
        x.see(0, -1);
        x.see(0, 100);
        Check.due(2, () -> x.count(19));
        Check.due(1, () -> x.count(20));
        Check.due(3, () -> x.count(21));
        // Neither is refused as an act: nothing to undo, what throws.
        Check.due(NONE, x::undo);
        Check.due(Check.NO_ELEMENT, () -> x.preach(3));
        Check.due(Check.NO_ELEMENT, () -> x.mortar(2));
        Check.due(Check.NO_ELEMENT, () -> x.street(0, 3, true));
        Check.due(1, () -> x.count(20));
    }

    private static void course() {
        Check.part("6 course");
        // Those of the plan stand behind those that hang, wherever the text has them.
        CockTower x = Check.tower("plan 4 2;hung 2 1;plan 1 0;hung 3 9;");
        int[][] due = {{2, 1, 1}, {3, 9, 1}, {4, 2, 0}, {1, 0, 0}};
        for (int c = 0; c < 4; c++) {
            for (int what = 0; what < 3; what++) {
                int course = c;
                int w = what;
                Check.due(due[course][w], () -> x.course(course, w));
            }
        }
        Check.due(Check.NO_ELEMENT, () -> x.course(4, 0));
        Check.due(Check.NO_ELEMENT, () -> x.course(-1, 0));
        Check.due(Check.NO_ELEMENT, () -> x.course(0, 3));
        Check.due(Check.NO_ELEMENT, () -> x.course(0, -1));
        Check.due(Check.NO_ELEMENT, () -> x.course(MAX, MAX));
        // The plan stays as it is when others fall: 5 hang on 4, the lowest falls, money is too little.
        CockTower y = Check.tower("hung 4 0;hung 1 0;plan 7 3;plan 8 2;ward 40;wind 0;");
        y.days(1);
        Check.due(4, () -> y.course(0, 0));
        Check.due(7, () -> y.course(1, 0));
        Check.due(3, () -> y.course(1, 1));
        Check.due(0, () -> y.course(1, 2));
        Check.due(8, () -> y.course(2, 0));
        Check.due(Check.NO_ELEMENT, () -> y.course(3, 0));
    }

    private static void ward() {
        Check.part("7 ward");
        CockTower x = Check.tower(SMALL);
        int[][] due = {{40, 2, 0, 2}, {60, 5, 1, 3}, {5, 2, 0, 0}};
        for (int w = 0; w < 3; w++) {
            for (int what = 0; what < 4; what++) {
                int ward = w;
                int k = what;
                Check.due(due[ward][k], () -> x.ward(ward, k));
            }
        }
        Check.due(Check.NO_ELEMENT, () -> x.ward(3, 0));
        Check.due(Check.NO_ELEMENT, () -> x.ward(-1, 0));
        Check.due(Check.NO_ELEMENT, () -> x.ward(0, 4));
        Check.due(Check.NO_ELEMENT, () -> x.ward(0, -1));
        // 9 doubts, 10 does not; a doubter itself is no doubt to itself.
        CockTower y = Check.tower("ward 9;ward 10;ward 9;street 0 1;street 2 1;street 2 0;");
        Check.due(2, () -> y.ward(1, 2));
        Check.due(1, () -> y.ward(0, 2));
        // By a rule, kept to 0 to 20, as it is now.
        CockTower z = Check.tower("ward 9;ward 10;street 0 1;hung 9 0;wind 1;believes 0;"
            + "gives 100*doubt+day-fell+lean-height;");
        Check.due(0, () -> z.ward(0, 3));
        Check.due(20, () -> z.ward(1, 3));
        z.days(1);
        Check.due(1, () -> z.ward(0, 3));
        z.days(1);
        Check.due(4, () -> z.ward(0, 3));
    }

    private static void days() {
        Check.part("8 days");
        CockTower x = Check.tower(SMALL);
        Check.due(NONE, () -> x.days(0));
        Check.due(NONE, () -> x.days(-1));
        Check.due(NONE, () -> x.days(21));
        Check.due(NONE, () -> x.days(MAX));
        Check.due(4, () -> x.count(20));
        Check.due(0, () -> x.count(3));
        Check.due(0, () -> x.count(16));
        Check.due(1, () -> x.days(1));
        Check.due(21, () -> x.days(20));
        Check.due(2, () -> x.count(16));
        // Days at once are those days one by one.
        CockTower y = Check.tower(SMALL);
        for (int i = 0; i < 21; i++) {
            y.days(1);
        }
        for (int what = 0; what <= 15; what++) {
            int w = what;
            Check.due(x.count(w), () -> y.count(w));
        }
    }

    private static void daysLast() {
        Check.part("8 days, the last one");
        CockTower x = new CockTower();
        for (int i = 0; i < 499; i++) {
            x.days(20);
        }
        Check.due(NONE, () -> x.days(20));
        Check.due(9999, () -> x.days(19));
        Check.due(NONE, () -> x.days(1));
        Check.due(2, () -> x.count(20));
        Check.due(99, () -> x.then(60, 2));
    }

    /** What each rule sees of the day, which tells when it is asked. */
    private static void dayInItsOrder() {
        Check.part("8 days, the order of a day");
        // It leans before they give.
        Check.due(4, () -> Check.tower("ward 50;wind 4;gives lean;").wardThen(0, 1, 1));
        // They give before the course hangs, believe behind it.
        CockTower x = Check.tower("ward 50;plan 1 0;cost 1;gives 1+height;believes height*2;");
        Check.due(1, () -> x.wardThen(0, 1, 1));
        Check.due(3, () -> x.wardThen(0, 2, 1));
        Check.due(52, () -> x.wardThen(0, 1, 0));
        // What fell: on the day before for gifts, on this day for belief.
        CockTower y = Check.tower("ward 50;hung 9 0;wind 0;gives fell*3;believes fell*2;");
        Check.due(0, () -> y.wardThen(0, 1, 1));
        Check.due(3, () -> y.wardThen(0, 2, 1));
        Check.due(3, () -> y.wardThen(0, 3, 1));
        Check.due(52, () -> y.wardThen(0, 1, 0));
        Check.due(52, () -> y.wardThen(0, 2, 0));
        // Belief sees the height behind all that fell.
        Check.due(50, () -> Check.tower("ward 50;hung 9 0;believes height;").wardThen(0, 1, 0));
        // All believe by what was ahead of all of them: ward 0 has 9 when ward 1 looks.
        CockTower z = Check.tower("ward 9;ward 50;street 0 1;");
        Check.due(10, () -> z.wardThen(0, 1, 0));
        Check.due(50, () -> z.wardThen(1, 1, 0));
        Check.due(51, () -> z.wardThen(1, 2, 0));
        // The day is still this one for all rules.
        CockTower d = Check.tower("ward 50;leans day+1;gives day+2;believes day+3;");
        Check.due(1, () -> d.then(1, 2));
        Check.due(2, () -> d.wardThen(0, 1, 1));
        Check.due(53, () -> d.wardThen(0, 1, 0));
        Check.due(3, () -> d.then(2, 2));
        // One course a day, though there is money for more.
        CockTower one = Check.tower("ward 99;plan 1 0;plan 1 0;plan 1 0;cost 1;");
        Check.due(2, () -> one.then(2, 0));
        // A course that hangs today may make it done, and then nothing falls.
        CockTower done = Check.tower("ground 2;hung 9 0;plan 9 0;cost 1;ward 20;");
        Check.due(2, () -> done.then(1, 0));
        Check.due(0, () -> done.then(60, 5));
        // Only the lowest ones fall, while it is too heavy.
        CockTower some = Check.tower("hung 4 0;hung 9 5;hung 3 1;ward 40;wind 0;");
        Check.due(2, () -> some.then(1, 5));
        Check.due(4, () -> some.then(1, 6));
        // What falls takes its mortar with it.
        Check.due(2, () -> Check.tower("hung 5 0;hung 3 3;ward 40;wind 0;").then(1, 5));
        // 16 hang and plan together, and the last of them stays in its place.
        CockTower full = Check.tower("ground 16;ward 20;wind 0;cost 99;" + "hung 1 0;".repeat(3)
            + "plan 2 1;".repeat(12) + "plan 7 5;");
        full.days(1);
        Check.due(2, () -> full.count(0));
        Check.due(7, () -> full.course(14, 0));
        Check.due(5, () -> full.course(14, 1));
        // A lean of 5 weighs 1, of 4 nothing.
        Check.due(0, () -> Check.tower("hung 5 0;ward 50;wind 4;").then(1, 5));
        Check.due(1, () -> Check.tower("hung 5 0;ward 50;wind 5;").then(1, 5));
    }

    private static void dayWithinBounds() {
        Check.part("8 days, bounds");
        // A fourth of the mortar, cut down, stands against the wind.
        Check.due(3, () -> Check.tower("hung 1 3;wind 3;").then(1, 2));
        Check.due(2, () -> Check.tower("hung 1 4;wind 3;").then(1, 2));
        Check.due(0, () -> Check.tower("hung 1 9;hung 1 9;wind 3;").then(1, 2));
        // So much mortar that it would stand up by 11 a day.
        CockTower much = Check.tower("ground 2;wind 9;" + "hung 1 2;".repeat(9));
        much.days(6);
        Check.due(30, () -> much.count(5));
        for (int i = 0; i < 63; i++) {
            much.mortar(i / 7);
        }
        Check.due(21, () -> much.then(1, 2));
        // The wind of a day is that of the day by how many there are.
        CockTower w = Check.tower("wind 1 5 0;");
        Check.due(1, () -> w.then(1, 2));
        Check.due(6, () -> w.then(3, 2));
        Check.due(7, () -> w.then(4, 2));
        // At most 9 a day, and 0 to 99 in all.
        CockTower up = Check.tower("leans 50;");
        Check.due(9, () -> up.then(1, 2));
        Check.due(99, () -> up.then(11, 2));
        Check.due(99, () -> up.then(12, 2));
        CockTower down = Check.tower("wind 9;leans (day<3)*9-(2<day)*50;");
        Check.due(27, () -> down.then(3, 2));
        Check.due(18, () -> down.then(4, 2));
        Check.due(0, () -> down.then(7, 2));
        // Gifts are kept to 0 to 20, money to 999; what is more is given, and lost.
        CockTower rich = Check.tower("ward 1;ward 1;ward 1;gives 99;");
        Check.due(60, () -> rich.then(1, 3));
        Check.due(999, () -> rich.then(17, 3));
        Check.due(400, () -> rich.wardThen(0, 20, 1));
        Check.due(0, () -> Check.tower("ward 1;gives 0-5;").then(5, 3));
        // Belief is kept to -9 to 9, faith to 0 to 99.
        CockTower believed = Check.tower("ward 50;believes 99;");
        Check.due(59, () -> believed.wardThen(0, 1, 0));
        Check.due(99, () -> believed.wardThen(0, 6, 0));
        CockTower lost = Check.tower("ward 50;believes 0-99;");
        Check.due(41, () -> lost.wardThen(0, 1, 0));
        Check.due(0, () -> lost.wardThen(0, 6, 0));
        // Four fall: 1 less 12 is kept to -9.
        Check.due(30, () -> Check.tower("ward 39;hung 9 0;hung 9 0;hung 9 0;hung 9 0;").wardThen(0, 1, 0));
    }

    private static void give() {
        Check.part("9 give");
        CockTower x = new CockTower();
        Check.due(NONE, () -> x.give(0));
        Check.due(NONE, () -> x.give(100));
        Check.due(NONE, () -> x.give(MIN));
        Check.due(3, () -> x.count(20));
        Check.due(1, () -> x.give(1));
        for (int i = 1; i <= 10; i++) {
            int due = 1 + 99 * i;
            Check.due(due, () -> x.give(99));
        }
        Check.due(999, () -> x.give(99));
        Check.due(999, () -> x.give(1));
        Check.due(13, () -> x.count(16));
        Check.due(12, x::undo);
        Check.due(11, x::undo);
        Check.due(991, () -> x.count(4));
    }

    private static void preach() {
        Check.part("10 preach");
        CockTower x = Check.tower("ward 85;ward 0;");
        Check.due(10, () -> x.preach(1));
        Check.due(95, () -> x.preach(0));
        Check.due(99, () -> x.preach(0));
        Check.due(NONE, () -> x.preach(0));
        Check.due(1, () -> x.count(20));
        Check.due(3, () -> x.count(16));
        Check.due(Check.NO_ELEMENT, () -> x.preach(2));
        Check.due(Check.NO_ELEMENT, () -> x.preach(-1));
        Check.due(1, () -> x.count(20));
        x.undo();
        Check.due(95, () -> x.ward(0, 0));
    }

    private static void mortar() {
        Check.part("11 mortar");
        CockTower x = Check.tower("hung 1 8;hung 2 0;plan 1 0;");
        Check.due(9, () -> x.mortar(0));
        Check.due(NONE, () -> x.mortar(0));
        Check.due(1, () -> x.count(20));
        Check.due(1, () -> x.mortar(1));
        Check.due(Check.NO_ELEMENT, () -> x.mortar(2));
        Check.due(Check.NO_ELEMENT, () -> x.mortar(-1));
        Check.due(Check.NO_ELEMENT, () -> x.mortar(MAX));
        Check.due(1, () -> x.count(20));
        Check.due(10, () -> x.count(7));
        x.undo();
        Check.due(0, () -> x.course(1, 1));
    }

    private static void prop() {
        Check.part("12 prop");
        CockTower x = Check.tower("wind 7;");
        Check.due(NONE, x::prop);
        Check.due(1, () -> x.count(20));
        x.days(2);
        Check.due(14, x::prop);
        Check.due(0, () -> x.count(5));
        Check.due(NONE, x::prop);
        Check.due(1, x::undo);
        Check.due(14, () -> x.count(5));
    }

    private static void street() {
        Check.part("13 street");
        CockTower x = Check.tower("ward 1;ward 1;ward 1;street 0 1;");
        Check.due(false, () -> x.street(0, 1, true));
        Check.due(false, () -> x.street(1, 0, true));
        Check.due(false, () -> x.street(1, 2, false));
        Check.due(false, () -> x.street(1, 1, true));
        Check.due(false, () -> x.street(1, 1, false));
        Check.due(5, () -> x.count(20));
        Check.due(0, () -> x.count(16));
        Check.due(true, () -> x.street(2, 1, true));
        Check.due(5, () -> x.ward(1, 1));
        Check.due(2, () -> x.ward(2, 1));
        Check.due(true, () -> x.street(1, 0, false));
        Check.due(0, () -> x.ward(0, 1));
        Check.due(4, () -> x.ward(1, 1));
        Check.due(Check.NO_ELEMENT, () -> x.street(0, 3, true));
        Check.due(Check.NO_ELEMENT, () -> x.street(-1, 0, true));
        Check.due(Check.NO_ELEMENT, () -> x.street(3, 3, true));
        Check.due(5, () -> x.count(20));
        Check.due(1, x::undo);
        Check.due(2, () -> x.ward(0, 1));
        Check.due(0, x::undo);
        Check.due(0, () -> x.ward(2, 1));
    }

    private static void undo() {
        Check.part("14 undo");
        CockTower x = Check.tower(FALLING);
        Check.due(NONE, x::undo);
        x.days(1);
        x.give(5);
        x.preach(0);
        x.days(2);
        Check.due(3, x::undo);
        Check.due(1, () -> x.count(3));
        Check.due(55, () -> x.ward(0, 0));
        Check.due(2, x::undo);
        Check.due(45, () -> x.ward(0, 0));
        Check.due(7, () -> x.count(4));
        Check.due(1, x::undo);
        Check.due(2, () -> x.count(4));
        Check.due(2, () -> x.count(11));
        Check.due(0, x::undo);
        int[] first = {2, 0, 1, 0, 0, 0, 14, 5, -9, 0, 0, 0};
        for (int what = 0; what < first.length; what++) {
            int w = what;
            Check.due(first[w], () -> x.count(w));
        }
        Check.due(NONE, x::undo);
        Check.due(0, () -> x.count(20));
        // All that an act may change comes back.
        CockTower y = Check.tower("hung 1 9;hung 2 5;plan 3 7;plan 4 0;ward 99;ward 98;ward 17;ward 0;ward 5;ward 6;"
            + "ward 7;ward 80;street 0 7;street 7 6;street 1 2;");
        y.give(9);
        y.street(0, 1, true);
        y.days(20);
        y.preach(3);
        for (int left = 3; left >= 0; left--) {
            int due = left;
            Check.due(due, y::undo);
        }
        int[] faith = {99, 98, 17, 0, 5, 6, 7, 80};
        int[] beside = {128, 4, 2, 0, 0, 0, 128, 65};
        for (int w = 0; w < 8; w++) {
            int ward = w;
            Check.due(faith[ward], () -> y.ward(ward, 0));
            Check.due(beside[ward], () -> y.ward(ward, 1));
        }
        int[] weightAndMortar = {19, 25, 37, 40};
        for (int c = 0; c < 4; c++) {
            int course = c;
            Check.due(weightAndMortar[course], () -> 10 * y.course(course, 0) + y.course(course, 1));
        }
        Check.due(2, () -> y.count(0));
        // What is seen is no act.
        x.see(0, 0);
        x.give(1);
        x.undo();
        Check.due(1, () -> x.count(17));
    }

    private static void undoKeeps40() {
        Check.part("14 undo, 40 are kept");
        CockTower x = new CockTower();
        for (int i = 1; i <= 43; i++) {
            x.give(1);
        }
        Check.due(40, () -> x.count(16));
        for (int left = 39; left >= 0; left--) {
            int due = left;
            Check.due(due, x::undo);
            Check.due(3 + due, () -> x.count(4));
        }
        Check.due(NONE, x::undo);
        Check.due(3, () -> x.count(4));
        x.give(1);
        Check.due(1, () -> x.count(16));
        Check.due(0, x::undo);
    }

    private static void then() {
        Check.part("15 then");
        CockTower x = Check.tower(SMALL);
        int[][] due = {{2, 5, 0, 0, 2, 0, 3}, {3, 9, 3, 0, 1, 0, 4}, {4, 10, 3, 0, 0, 0, 1}, {4, 10, 6, 5, 0, 0, 1}};
        for (int d = 0; d < 4; d++) {
            for (int what = 0; what < 7; what++) {
                int days = d;
                int w = what;
                Check.due(due[days][w], () -> x.then(days, w));
            }
        }
        Check.due(0, () -> x.count(3));
        Check.due(2, () -> x.count(0));
        Check.due(0, () -> x.count(16));
        Check.due(Check.NO_ELEMENT, () -> x.then(0, 7));
        Check.due(Check.NO_ELEMENT, () -> x.then(61, -1));
        Check.due(Check.ILLEGAL, () -> x.then(61, 0));
        Check.due(Check.ILLEGAL, () -> x.then(-1, 6));
        CockTower y = Check.tower(FALLING);
        Check.due(2, () -> y.then(1, 5));
        Check.due(2, () -> y.then(60, 5));
        Check.due(NONE, () -> y.then(1, 6));
        y.days(1);
        Check.due(0, () -> y.then(5, 5));
    }

    private static void wardThen() {
        Check.part("16 wardThen");
        CockTower x = Check.tower(SMALL);
        Check.due(40, () -> x.wardThen(0, 0, 0));
        Check.due(0, () -> x.wardThen(0, 0, 1));
        Check.due(45, () -> x.wardThen(0, 5, 0));
        Check.due(10, () -> x.wardThen(0, 5, 1));
        Check.due(60, () -> x.wardThen(1, 5, 0));
        Check.due(61, () -> x.wardThen(1, 6, 0));
        Check.due(10, () -> x.wardThen(2, 5, 0));
        Check.due(65, () -> x.wardThen(2, 60, 0));
        Check.due(Check.NO_ELEMENT, () -> x.wardThen(3, 0, 0));
        Check.due(Check.NO_ELEMENT, () -> x.wardThen(-1, 61, 0));
        Check.due(Check.NO_ELEMENT, () -> x.wardThen(0, 61, 2));
        Check.due(Check.NO_ELEMENT, () -> x.wardThen(0, 0, -1));
        Check.due(Check.ILLEGAL, () -> x.wardThen(0, 61, 0));
        Check.due(Check.ILLEGAL, () -> x.wardThen(0, -1, 1));
    }

    private static void reaches() {
        Check.part("17 reaches");
        CockTower x = Check.tower(SMALL);
        Check.due(0, () -> x.reaches(0));
        Check.due(0, () -> x.reaches(2));
        Check.due(1, () -> x.reaches(3));
        Check.due(2, () -> x.reaches(4));
        Check.due(NONE, () -> x.reaches(5));
        Check.due(NONE, () -> x.reaches(16));
        Check.due(Check.ILLEGAL, () -> x.reaches(17));
        Check.due(Check.ILLEGAL, () -> x.reaches(-1));
        // On the 60th day money is 60 the first time; or 61 only on the 61st.
        Check.due(60, () -> Check.tower("ward 99;plan 1 0;cost 60;gives 1;wind 0;").reaches(1));
        Check.due(NONE, () -> Check.tower("ward 99;plan 1 0;cost 61;gives 1;wind 0;").reaches(1));
        // What falls on the day that it came did not hang behind it.
        Check.due(NONE, () -> Check.tower("ward 20;plan 9 0;cost 1;gives 1;believes 0;").reaches(1));
    }

    private static void falls() {
        Check.part("18 falls");
        Check.due(NONE, () -> Check.tower(SMALL).falls());
        Check.due(1, () -> Check.tower(FALLING).falls());
        // 5 on 5: it leans by 1 a day and weighs 1 more on the 5th.
        Check.due(5, () -> Check.tower("hung 5 0;ward 50;wind 1;believes 0;").falls());
        Check.due(60, () -> Check.tower("hung 5 0;ward 50;leans (day=59)*5;believes 0;").falls());
        Check.due(NONE, () -> Check.tower("hung 5 0;ward 50;leans (day=60)*5;believes 0;").falls());
        CockTower x = Check.tower("hung 5 0;ward 50;leans (day=60)*5;believes 0;");
        x.days(1);
        Check.due(60, x::falls);
    }

    private static void later() {
        Check.part("19 later");
        CockTower x = Check.tower(SMALL);
        Check.due(4, () -> x.later(0, 0));
        Check.due(4, () -> x.later(4, 0));
        Check.due(0, () -> x.later(5, 0));
        Check.due(1, () -> x.later(0, 1));
        Check.due(Check.NO_ELEMENT, () -> x.later(0, 2));
        Check.due(Check.NO_ELEMENT, () -> x.later(61, -1));
        Check.due(Check.ILLEGAL, () -> x.later(61, 0));
        Check.due(Check.ILLEGAL, () -> x.later(-1, 1));
        // Of like ones the least, and who is most faithful may change.
        CockTower y = Check.tower("ward 20;ward 40;ward 40;believes (faith<30)*9-(39<faith)*5;");
        Check.due(1, () -> y.later(0, 1));
        Check.due(1, () -> y.later(1, 1));
        Check.due(0, () -> y.later(2, 1));
        Check.due(NONE, () -> new CockTower().later(0, 1));
        Check.due(0, () -> new CockTower().later(0, 0));
    }

    private static void through() {
        Check.part("20 through");
        CockTower x = Check.tower(SMALL);
        Check.due(3, () -> x.through(2, 0));
        Check.due(6, () -> x.through(4, 0));
        Check.due(0, () -> x.through(1, 1));
        Check.due(3, () -> x.through(4, 1));
        Check.due(59, () -> x.through(60, 1));
        Check.due(1, () -> x.through(5, 2));
        Check.due(60, () -> x.through(60, 3));
        Check.due(Check.NO_ELEMENT, () -> x.through(1, 4));
        Check.due(Check.NO_ELEMENT, () -> x.through(0, -1));
        Check.due(Check.ILLEGAL, () -> x.through(0, 0));
        Check.due(Check.ILLEGAL, () -> x.through(61, 3));
        // The worst is at the end of a day to come, not now, and need not be the last one.
        CockTower y = Check.tower("wind 9;leans (day<2)*9-(1<day)*9;ward 1;ward 1;gives (day=3)*2+(day=4)*2;");
        Check.due(18, () -> y.through(5, 0));
        Check.due(4, () -> y.through(5, 2));
        y.days(2);
        Check.due(9, () -> y.through(2, 0));
        Check.due(2, () -> y.through(5, 2));
        Check.due(1, () -> new CockTower().through(9, 2));
        Check.due(2, () -> Check.tower("ward 1;gives day=1;").through(5, 2));
        Check.due(0, () -> Check.tower("wind 0;").through(5, 0));
        CockTower z = Check.tower(FALLING);
        Check.due(0, () -> z.through(1, 3));
        Check.due(4, () -> z.through(5, 3));
        Check.due(0, () -> z.through(5, 1));
        // More than the ground needs may hang.
        Check.due(7, () -> Check.tower("ground 2;hung 9 0;hung 9 0;hung 9 0;").through(7, 1));
    }

    private static void pious() {
        Check.part("21 pious");
        CockTower x = Check.tower(SMALL);
        Check.due(0, () -> x.pious(0, 9));
        Check.due(1, () -> x.pious(0, 10));
        Check.due(51, () -> x.pious(0, 60));
        Check.due(7, () -> x.pious(1, 7));
        Check.due(Check.NO_ELEMENT, () -> x.pious(3, 1));
        Check.due(Check.NO_ELEMENT, () -> x.pious(-1, 0));
        Check.due(Check.ILLEGAL, () -> x.pious(0, 0));
        Check.due(Check.ILLEGAL, () -> x.pious(0, 61));
        Check.due(1, () -> Check.tower("ward 49;believes 1-2*(49<faith);").pious(0, 2));
    }

    private static void far() {
        Check.part("22 far");
        CockTower x = Check.tower("ward 1;ward 1;ward 1;ward 1;ward 1;ward 1;ward 1;ward 1;"
            + "street 0 1;street 1 2;street 2 3;street 3 4;street 4 5;street 5 6;street 6 7;");
        Check.due(7, () -> x.far(0, 7));
        Check.due(7, () -> x.far(7, 0));
        Check.due(0, () -> x.far(3, 3));
        Check.due(1, () -> x.far(3, 4));
        x.street(0, 5, true);
        Check.due(3, () -> x.far(0, 7));
        x.street(5, 6, false);
        Check.due(NONE, () -> x.far(0, 7));
        Check.due(Check.NO_ELEMENT, () -> x.far(0, 8));
        Check.due(Check.NO_ELEMENT, () -> x.far(-1, 0));
        Check.due(Check.NO_ELEMENT, () -> new CockTower().far(0, 0));
    }

    private static void apart() {
        Check.part("23 apart");
        CockTower x = Check.tower("ward 1;ward 1;ward 1;ward 1;ward 1;ward 1;"
            + "street 0 1;street 1 2;street 2 3;street 3 0;");
        Check.due(10, () -> x.apart(0, 2));
        Check.due(5, () -> x.apart(1, 3));
        Check.due(NONE, () -> x.apart(0, 1));
        Check.due(NONE, () -> x.apart(0, 0));
        Check.due(0, () -> x.apart(0, 5));
        Check.due(Check.NO_ELEMENT, () -> x.apart(0, 6));
        Check.due(Check.NO_ELEMENT, () -> x.apart(-1, 0));
        // Of as few the least: 1 or 4 alone cuts the way 0 1 4 5.
        CockTower y = Check.tower("ward 1;ward 1;ward 1;ward 1;ward 1;ward 1;street 0 1;street 1 4;street 4 5;");
        Check.due(2, () -> y.apart(0, 5));
        Check.due(2, () -> y.apart(5, 0));
        // One that all ways share is fewer than the two lesser ones beside 0.
        CockTower z = Check.tower("ward 1;ward 1;ward 1;ward 1;ward 1;"
            + "street 0 1;street 0 2;street 1 3;street 2 3;street 3 4;");
        Check.due(8, () -> z.apart(0, 4));
    }

    private static void toPreach() {
        Check.part("24 toPreach");
        Check.due(0, () -> Check.tower(SMALL).toPreach(60));
        Check.due(0, () -> new CockTower().toPreach(1));
        // Faith of 54 holds 5, of 64 holds 6.
        CockTower x = Check.tower("hung 6 0;ward 45;ward 9;wind 0;believes 0;");
        Check.due(1, () -> x.toPreach(1));
        Check.due(1, () -> x.toPreach(60));
        // A sermon to 95 brings 4 alone.
        Check.due(2, () -> Check.tower("hung 7 0;hung 3 0;ward 95;ward 0;wind 0;").toPreach(1));
        Check.due(3, () -> Check.tower("hung 7 0;ward 45;ward 9;ward 0;wind 0;").toPreach(1));
        Check.due(NONE, () -> Check.tower("hung 9 0;ward 45;ward 9;ward 0;wind 0;").toPreach(1));
        // Holds for two days by one sermon, for seven by two, for more by none.
        CockTower y = Check.tower("hung 5 0;ward 25;ward 26;wind 2;believes 0;");
        Check.due(0, () -> y.toPreach(2));
        Check.due(1, () -> y.toPreach(4));
        Check.due(3, () -> y.toPreach(7));
        Check.due(NONE, () -> y.toPreach(8));
        Check.due(Check.ILLEGAL, () -> y.toPreach(0));
        Check.due(Check.ILLEGAL, () -> y.toPreach(61));
        Check.due(25, () -> y.ward(0, 0));
    }

    private static void row() {
        Check.part("25 row");
        // Two a day, a cost of 2: the course of 9 falls, and is best left for later.
        CockTower x = Check.tower("plan 9 0;plan 1 0;plan 1 0;ward 59;cost 2;wind 0;");
        Check.due(1, () -> x.row(1, 0));
        Check.due(102, () -> x.row(1, 1));
        Check.due(2, () -> x.row(2, 0));
        Check.due(120, () -> x.row(2, 1));
        Check.due(2, () -> x.row(3, 0));
        Check.due(12, () -> x.row(3, 1));
        Check.due(9, () -> x.course(0, 0));
        // Only the first four change places: the fifth, a light one, does not come first.
        CockTower y = Check.tower("plan 9 0;plan 9 0;plan 9 0;plan 9 0;plan 1 0;ward 59;cost 2;wind 0;");
        Check.due(0, () -> y.row(1, 0));
        Check.due(123, () -> y.row(1, 1));
        CockTower z = Check.tower("plan 9 0;plan 9 0;plan 9 0;plan 1 0;plan 1 0;ward 59;cost 2;wind 0;");
        Check.due(3012, () -> z.row(1, 1));
        CockTower one = Check.tower("plan 1 0;ward 59;cost 2;");
        Check.due(0, () -> one.row(1, 1));
        Check.due(1, () -> one.row(1, 0));
        CockTower none = Check.tower("hung 1 0;ward 59;cost 2;");
        Check.due(NONE, () -> none.row(1, 1));
        Check.due(1, () -> none.row(1, 0));
        // A course goes with its own mortar.
        CockTower m = Check.tower("plan 9 0;plan 9 9;ward 59;cost 2;wind 0;");
        Check.due(10, () -> m.row(1, 1));
        Check.due(Check.NO_ELEMENT, () -> x.row(1, 2));
        Check.due(Check.NO_ELEMENT, () -> x.row(0, -1));
        Check.due(Check.ILLEGAL, () -> x.row(0, 0));
        Check.due(Check.ILLEGAL, () -> x.row(61, 1));
    }

    private static void toMortar() {
        Check.part("26 toMortar");
        CockTower x = Check.tower("hung 6 0;ward 50;wind 0;");
        Check.due(0, () -> x.toMortar(1));
        Check.due(0, () -> x.course(0, 1));
        Check.due(NONE, () -> Check.tower("hung 7 0;ward 50;wind 0;").toMortar(1));
        Check.due(NONE, () -> Check.tower("hung 5 0;ward 50;wind 0;").toMortar(1));
        // The first one has 9 already.
        Check.due(1, () -> Check.tower("hung 9 9;hung 6 0;ward 50;wind 0;").toMortar(1));
        Check.due(0, () -> Check.tower("hung 9 8;hung 5 0;ward 50;wind 0;").toMortar(1));
        Check.due(2, () -> Check.tower("hung 9 9;hung 6 9;hung 9 1;ward 40;wind 0;plan 1 0;").toMortar(1));
        Check.due(NONE, () -> Check.tower("hung 9 9;leans 5;").toMortar(1));
        // More mortar would hold the course that comes, but it does not hang yet.
        Check.due(NONE, () -> Check.tower("hung 9 9;plan 6 0;ward 50;wind 0;cost 2;").toMortar(1));
        Check.due(NONE, () -> new CockTower().toMortar(60));
        Check.due(Check.ILLEGAL, () -> x.toMortar(0));
        Check.due(Check.ILLEGAL, () -> x.toMortar(61));
    }

    private static void see() {
        Check.part("27 see, 28 forget");
        CockTower x = new CockTower();
        Check.due(NONE, () -> x.see(-1, 0));
        Check.due(NONE, () -> x.see(21, 0));
        Check.due(NONE, () -> x.see(0, -1));
        Check.due(NONE, () -> x.see(0, 100));
        Check.due(4, () -> x.count(21));
        Check.due(1, () -> x.see(0, 0));
        Check.due(2, () -> x.see(20, 99));
        for (int i = 3; i <= 8; i++) {
            int due = i;
            Check.due(due, () -> x.see(1, 1));
        }
        Check.due(NONE, () -> x.see(1, 1));
        Check.due(5, () -> x.count(21));
        Check.due(8, () -> x.count(17));
        Check.due(0, () -> x.heavy(2));
        x.forget();
        Check.due(1, () -> x.heavy(2));
        Check.due(0, () -> x.count(17));
        Check.due(1, () -> x.see(0, 0));
        Check.due(0, () -> x.count(16));
        x.forget();
        x.forget();
        Check.due(0, () -> x.count(17));
        Check.due(5, () -> x.count(21));
    }

    private static void heavy() {
        Check.part("29 heavy");
        // It leans by what it weighs above 5.
        CockTower x = Check.tower("hung 2 0;hung 3 0;ground 2;leans weight-5;");
        Check.due(16, () -> x.heavy(0));
        Check.due(1, () -> x.heavy(1));
        Check.due(1, () -> x.heavy(2));
        x.see(1, 2);
        Check.due(2, () -> x.heavy(0));
        Check.due(4, () -> x.heavy(1));
        Check.due(0, () -> x.heavy(2));
        x.see(3, 6);
        Check.due(2, () -> x.heavy(0));
        x.see(20, 40);
        Check.due(2, () -> x.heavy(0));
        x.see(2, 5);
        Check.due(0, () -> x.heavy(0));
        Check.due(NONE, () -> x.heavy(1));
        x.forget();
        // All that weighs 5 or less does not lean: 1 of the first one, 1 or 2 of the second one.
        x.see(0, 0);
        x.see(1, 0);
        Check.due(1, () -> x.heavy(2));
        Check.due(1, () -> x.heavy(1));
        Check.due(3, () -> x.heavy(0));
        x.see(0, 1);
        Check.due(0, () -> x.heavy(2));
        Check.due(0, () -> x.heavy(0));
        Check.due(Check.NO_ELEMENT, () -> x.heavy(3));
        Check.due(Check.NO_ELEMENT, () -> x.heavy(-1));
        Check.due(3, () -> x.course(1, 0));
        // What is seen is told from now, whatever day it is.
        CockTower y = Check.tower("hung 2 0;hung 3 0;ground 2;leans weight-4;");
        y.see(1, 1);
        Check.due(1, () -> y.heavy(2));
        y.days(1);
        Check.due(0, () -> y.heavy(2));
        // 3 in all can be by the second course alone.
        CockTower second = Check.tower("hung 2 0;hung 3 0;ground 2;leans weight;");
        second.see(1, 3);
        Check.due(1, () -> second.heavy(0));
        Check.due(11, () -> second.heavy(1));
        // A weight may make a course fall, which is seen by the height.
        CockTower z = Check.tower("hung 5 0;ward 50;believes 0;leans height;");
        z.see(2, 1);
        Check.due(0, () -> z.heavy(2));
        Check.due(4, () -> z.heavy(0));
        Check.due(6, () -> z.heavy(1));
    }

    private static void look() {
        Check.part("30 look");
        CockTower x = Check.tower("hung 2 0;hung 3 0;ground 2;leans weight-5;");
        Check.due(1, () -> x.look(0));
        Check.due(8, () -> x.look(1));
        x.see(1, 2);
        Check.due(1, () -> x.look(0));
        Check.due(1, () -> x.look(1));
        x.see(1, 3);
        Check.due(NONE, () -> x.look(0));
        Check.due(0, () -> x.look(1));
        // On the second day alone it leans by its weight, 9 at most: 3, 4, 6, 7, 8 or 9.
        CockTower y = Check.tower("hung 2 0;hung 3 0;ground 2;leans (day=1)*weight;");
        Check.due(2, () -> y.look(0));
        Check.due(6, () -> y.look(1));
        y.see(1, 0);
        Check.due(2, () -> y.look(0));
        Check.due(6, () -> y.look(1));
        y.forget();
        y.see(2, 9);
        y.days(1);
        Check.due(1, () -> y.look(0));
        CockTower late = Check.tower("hung 2 0;hung 3 0;ground 2;leans (day=5)*weight;");
        Check.due(1, () -> late.look(0));
        Check.due(1, () -> late.look(1));
        late.days(1);
        Check.due(5, () -> late.look(0));
        Check.due(Check.NO_ELEMENT, () -> x.look(2));
        Check.due(Check.NO_ELEMENT, () -> x.look(-1));
        // From 40: weight 1 goes down to 0, 3 goes up to 64, 4 to 9 are told apart on the fifth day.
        CockTower wide = Check.tower("hung 2 0;ward 99;ward 99;ward 99;believes 0;leans (day<5)*8+(4<day)*("
            + "(weight=1)*(0-9)+(weight=3)*((day<7)*9+(day=7)*6)+(3<weight)*(day=9)*weight);");
        wide.days(5);
        Check.due(40, () -> wide.count(5));
        Check.due(5, () -> wide.look(0));
        Check.due(8, () -> wide.look(1));
        // Up to 63 and above.
        CockTower high = Check.tower("hung 2 0;ward 99;ward 99;leans (day<7)*9+(day=7)*(weight-3);");
        high.days(7);
        Check.due(63, () -> high.count(5));
        Check.due(1, () -> high.look(0));
        Check.due(8, () -> high.look(1));
        Check.due(NONE, () -> new CockTower().look(0));
        Check.due(0, () -> new CockTower().look(1));
    }

    private static void gales() {
        Check.part("31 gales");
        // It holds 5 and leans by 9 in a gale, which weighs 1.
        CockTower x = Check.tower("hung 5 0;ward 50;");
        Check.due(7, () -> x.gales(1, 3));
        Check.due(49, () -> x.gales(2, 3));
        Check.due(10, () -> x.gales(1, 0));
        Check.due(0, () -> x.gales(1, 10));
        Check.due(16807, () -> x.gales(5, 3));
        // Here one gale is held, two are not.
        CockTower y = Check.tower("hung 4 0;ward 50;wind 9;");
        Check.due(10, () -> y.gales(1, 3));
        Check.due(91, () -> y.gales(2, 3));
        // The rule sees the gale's wind.
        CockTower z = Check.tower("hung 5 0;ward 50;leans (wind=9)*5;");
        Check.due(7, () -> z.gales(1, 3));
        Check.due(10, () -> Check.tower("hung 5 0;ward 50;leans (wind=5)*5;wind 5;").gales(1, 3));
        Check.due(100000, () -> new CockTower().gales(5, 4));
        // It holds for two days, and not for a third one.
        CockTower lost = Check.tower("hung 5 0;ward 59;believes 0-9;leans 0;");
        Check.due(10, () -> lost.gales(1, 3));
        Check.due(100, () -> lost.gales(2, 3));
        Check.due(0, () -> lost.gales(3, 3));
        Check.due(Check.ILLEGAL, () -> x.gales(0, 5));
        Check.due(Check.ILLEGAL, () -> x.gales(6, 5));
        Check.due(Check.ILLEGAL, () -> x.gales(1, -1));
        Check.due(Check.ILLEGAL, () -> x.gales(1, 11));
    }

    private static void game() {
        Check.part("32 game");
        // One gift hangs a course, and for its height both believe: 52 and 56 beside 0, both by 54.
        CockTower x = Check.tower("ward 0;ward 0;plan 1 9;plan 1 9;cost 5;wind 0;gives 0;believes height*9;");
        Check.due(2, () -> x.game(0, 1, 0));
        Check.due(1, () -> x.game(0, 1, 1));
        Check.due(1, () -> x.game(1, 0, 1));
        // Ward 0 wants just one course, ward 1 none or two: nothing rests.
        CockTower y = Check.tower("ward 0;ward 60;plan 1 9;plan 1 9;cost 5;wind 0;gives 0;"
            + "believes (faith<50)*(height=1)*9+(49<faith)*(1-(height=1))*4;");
        Check.due(0, () -> y.game(0, 1, 0));
        Check.due(NONE, () -> y.game(0, 1, 1));
        // Nothing comes of it but less faith.
        CockTower z = Check.tower("ward 50;ward 50;ward 50;believes 0;");
        Check.due(1, () -> z.game(0, 2, 0));
        Check.due(0, () -> z.game(0, 2, 1));
        // A gift makes it done, so that 3 hang, not 1: just as much as being generous costs.
        CockTower even = Check.tower("ward 0;ward 0;hung 9 9;hung 9 0;plan 9 0;ground 3;cost 5;wind 0;"
            + "gives 0;believes 0;");
        Check.due(3, () -> even.game(0, 1, 0));
        Check.due(0, () -> even.game(0, 1, 1));
        Check.due(0, () -> even.count(4));
        // Ward 0 alone gains by a course: 52 beside 0; ward 1 loses by a gift.
        CockTower first = Check.tower("ward 0;ward 60;plan 1 9;cost 5;wind 0;gives 0;believes (faith<50)*height*9;");
        Check.due(1, () -> first.game(0, 1, 0));
        Check.due(10, () -> first.game(0, 1, 1));
        Check.due(1, () -> first.game(1, 0, 1));
        // A gift is 5, not 6; the 6th day counts, the 7th one does not.
        Check.due(0, () -> Check.tower("ward 0;ward 0;plan 1 9;cost 6;wind 0;gives 0;believes height*9;").game(0, 1, 1));
        String onDay = "ward 0;ward 0;plan 1 9;cost 5;wind 0;gives 0;believes height*9*";
        Check.due(1, () -> Check.tower(onDay + "(day=5);").game(0, 1, 1));
        Check.due(0, () -> Check.tower(onDay + "(day=6);").game(0, 1, 1));
        // 4 courses more are 8, less 4, less the faith of 5 that is given.
        CockTower dear = Check.tower("ward 5;ward 5;hung 9 9;hung 9 0;hung 9 0;hung 9 0;plan 9 0;ground 5;cost 5;"
            + "wind 0;gives 0;believes 0;");
        Check.due(1, () -> dear.game(0, 1, 0));
        Check.due(0, () -> dear.game(0, 1, 1));
        Check.due(Check.NO_ELEMENT, () -> z.game(0, 3, 0));
        Check.due(Check.NO_ELEMENT, () -> z.game(-1, 0, 0));
        Check.due(Check.NO_ELEMENT, () -> z.game(0, 0, 2));
        Check.due(Check.ILLEGAL, () -> z.game(0, 0, 0));
        Check.due(Check.ILLEGAL, () -> z.game(2, 2, 1));
    }

    private static int next(int seed) {
        return seed * 1103515245 + 12345;
    }

    private static int draw(int seed, int n) {
        return (seed >>> 16) % 32768 % n;
    }

    private static void years() {
        Check.part("33 years");
        CockTower x = Check.tower("ward 10;ward 20;ward 30;hung 1 5;hung 1 5;plan 1 0;cost 40;wind 0;gives 0;believes 0;");
        Check.due(2, () -> x.years(7, 0, 0));
        Check.due(0, () -> x.years(7, 0, 1));
        Check.due(60, () -> x.years(7, 0, 2));
        for (int seed = -30; seed < 60; seed++) {
            int s = seed * 1000003;
            int first = next(s);
            int second = next(first);
            int kind = draw(first, 6);
            int ward = draw(second, 3);
            int faith = kind == 0 ? 60 - 10 * (ward + 1) + draw(next(second), 100) : 60;
            Check.due(faith, () -> x.years(s, 1, 2));
            Check.due(kind == 1 && draw(second, 50) >= 40 ? 3 : 2, () -> x.years(s, 1, 0));
            Check.due(0, () -> x.years(s, 1, 1));
        }
        // The mortar of the first holds both, that of the second one nothing.
        CockTower y = Check.tower("ward 10;hung 5 9;hung 5 0;wind 0;believes 0;");
        Check.due(3, () -> Check.tower("hung 9 0;hung 9 0;hung 9 0;").years(1, 5, 1));
        for (int seed = 0; seed < 600; seed++) {
            int s = seed * 7919;
            int first = next(s);
            int kind = draw(first, 6);
            boolean fall = kind == 2 && draw(next(first), 2) == 0;
            boolean weak = kind == 0 && draw(next(next(first)), 100) < 10;
            Check.due(fall ? 2 : weak ? 1 : 0, () -> y.years(s, 1, 1));
        }
        // Nothing is drawn behind 0 without wards, and behind 2 if nothing hangs.
        CockTower z = Check.tower("plan 1 9;cost 25;wind 0;");
        for (int seed = 0; seed < 60; seed++) {
            int s = seed * 104729;
            int first = next(s);
            boolean one = draw(first, 6) == 1;
            int behind = one ? next(first) : first;
            boolean hangs = one && draw(behind, 50) >= 25;
            int other = next(behind);
            boolean later = draw(other, 6) == 1 && draw(next(other), 50) >= 25;
            // Without its mortar nothing holds the one that hangs.
            boolean falls = hangs && draw(other, 6) == 2;
            Check.due((hangs || later) && !falls ? 1 : 0, () -> z.years(s, 2, 0));
        }
        Check.due(0, () -> x.count(3));
        Check.due(Check.NO_ELEMENT, () -> x.years(1, 0, 3));
        Check.due(Check.NO_ELEMENT, () -> x.years(1, 61, -1));
        Check.due(Check.ILLEGAL, () -> x.years(1, 61, 0));
        Check.due(Check.ILLEGAL, () -> x.years(1, -1, 2));
    }

    private static void share() {
        Check.part("34 share");
        CockTower x = Check.tower(SMALL);
        Check.due(0, () -> x.share(0, 0));
        Check.due(40, () -> x.share(0, 1));
        Check.due(60, () -> x.share(1, 1));
        Check.due(0, () -> x.share(2, 1));
        CockTower y = Check.tower("ward 50;ward 50;ward 50;");
        Check.due(33, () -> y.share(2, 60));
        // What is lost above 999 was given.
        CockTower z = Check.tower("ward 0;ward 1;gives 20-faith;believes 0;");
        Check.due(51, () -> z.share(0, 60));
        Check.due(48, () -> z.share(1, 60));
        Check.due(0, () -> Check.tower("ward 10;").share(0, 5));
        Check.due(100, () -> Check.tower("ward 20;ward 0;").share(0, 1));
        Check.due(12, () -> Check.tower("ward 20;".repeat(8)).share(7, 1));
        Check.due(Check.NO_ELEMENT, () -> x.share(3, 0));
        Check.due(Check.NO_ELEMENT, () -> x.share(-1, 61));
        Check.due(Check.ILLEGAL, () -> x.share(0, 61));
        Check.due(Check.ILLEGAL, () -> x.share(0, -1));
    }

    private static void heaviest() {
        Check.part("35 heaviest");
        CockTower x = Check.tower(SMALL);
        Check.due(1, () -> x.heaviest(0));
        Check.due(2, () -> x.heaviest(1));
        Check.due(2, () -> x.heaviest(60));
        Check.due(1, () -> Check.tower("hung 1 0;hung 4 0;hung 2 0;hung 4 0;plan 9 0;").heaviest(0));
        Check.due(0, () -> Check.tower(FALLING).heaviest(0));
        Check.due(NONE, () -> Check.tower(FALLING).heaviest(1));
        Check.due(NONE, () -> new CockTower().heaviest(0));
        Check.due(0, () -> Check.tower("hung 1 0;").heaviest(0));
        Check.due(Check.ILLEGAL, () -> x.heaviest(61));
        Check.due(Check.ILLEGAL, () -> x.heaviest(-1));
    }

    private static void toProp() {
        Check.part("36 toProp");
        // It holds 5; the lean of one day weighs 1, of two days 3.
        CockTower x = Check.tower("hung 3 0;ward 50;wind 9;");
        Check.due(0, () -> x.toProp(1, 0));
        Check.due(1, () -> x.toProp(1, 1));
        Check.due(1, () -> x.toProp(2, 0));
        Check.due(1, () -> x.toProp(2, 1));
        Check.due(0, () -> x.toProp(3, 0));
        Check.due(0, () -> x.toProp(3, 1));
        Check.due(0, () -> x.count(5));
        // It leans now, and a prop at once is as good as one on the last day.
        CockTower y = Check.tower("hung 3 0;ward 50;leans (day=0)*9+(day=1)*9;believes 0;");
        y.days(1);
        Check.due(0, () -> y.toProp(1, 0));
        Check.due(1, () -> y.toProp(1, 1));
        Check.due(0, () -> new CockTower().toProp(60, 0));
        // A prop would make it lean anew, by more than it does: only behind all days it changes nothing.
        CockTower never = Check.tower("hung 4 0;ward 49;believes 0;leans (day=0)*4+(0<day)*(lean<4)*9;");
        never.days(1);
        Check.due(2, () -> never.toProp(2, 0));
        Check.due(1, () -> never.toProp(2, 1));
        // It leans by nothing then, not by a little.
        CockTower four = Check.tower("hung 5 0;ward 50;wind 4;believes 0;");
        Check.due(1, () -> four.toProp(2, 0));
        Check.due(1, () -> four.toProp(2, 1));
        Check.due(Check.NO_ELEMENT, () -> x.toProp(1, 2));
        Check.due(Check.NO_ELEMENT, () -> x.toProp(0, -1));
        Check.due(Check.ILLEGAL, () -> x.toProp(0, 0));
        Check.due(Check.ILLEGAL, () -> x.toProp(61, 1));
    }

    private static void image() {
        Check.part("37 image, 38 restore");
        CockTower x = Check.tower(FALLING + "ward 20;");
        Check.due(false, x::restore);
        x.give(3);
        x.days(1);
        x.see(1, 2);
        x.image();
        int[] due = new int[18];
        for (int what = 0; what < 18; what++) {
            due[what] = x.count(what);
        }
        Check.due(2, () -> x.count(11));
        x.days(5);
        x.street(0, 1, true);
        x.preach(1);
        x.undo();
        x.undo();
        x.undo();
        x.undo();
        x.undo();
        x.mortar(0);
        x.see(2, 2);
        x.give(0);
        for (int again = 0; again < 2; again++) {
            Check.due(true, x::restore);
            for (int what = 0; what < 18; what++) {
                int w = what;
                Check.due(due[w], () -> x.count(w));
            }
            Check.due(0, () -> x.ward(0, 1));
            // STATUS is no part of the image.
            Check.due(1, () -> x.count(20));
            Check.due(1, x::undo);
            Check.due(2, () -> x.count(0));
            Check.due(0, x::undo);
            Check.due(0, () -> x.count(4));
            x.forget();
            x.give(7);
        }
        // Another image takes its place.
        x.image();
        x.give(1);
        Check.due(true, x::restore);
        Check.due(7, () -> x.count(4));
        Check.due(0, () -> x.count(17));
        Check.due(1, () -> x.count(16));
        imageKeepsActsAndSeen();
        // The tape and the fault are no part of it either.
        Check.tell(x, "ward x");
        Check.feed(x, "ward");
        Check.due(true, x::restore);
        Check.due(20, () -> x.count(18));
        Check.due(5, x::fault);
    }

    private static void imageKeepsActsAndSeen() {
        CockTower x = Check.tower("hung 1 0;wind 1;");
        for (int i = 0; i < 45; i++) {
            x.give(1);
        }
        x.see(3, 3);
        x.image();
        for (int i = 0; i < 20; i++) {
            x.give(50);
        }
        x.forget();
        x.see(2, 3);
        Check.due(0, () -> x.heavy(2));
        Check.due(true, x::restore);
        Check.due(1, () -> x.heavy(2));
        for (int left = 39; left >= 0; left--) {
            int due = left;
            Check.due(due, x::undo);
            Check.due(5 + due, () -> x.count(4));
        }
        // The acts behind the image did not reach into it, nor do they the second time.
        x.give(77);
        Check.due(true, x::restore);
        Check.due(40, () -> x.count(16));
        Check.due(39, x::undo);
        Check.due(44, () -> x.count(4));
    }
}
