/** Of "==== 3" and "==== 5" and promises 5 to 7, 15 to 26, 34 to 36: each bound of what is asked, on both sides. */
public final class EdgesOfAskingTest {
    private static final int NONE = CockTower.NONE;
    private static final int MIN = Integer.MIN_VALUE;
    private static final int MAX = Integer.MAX_VALUE;

    private static final String SMALL = "hung 2 1;hung 3 0;plan 4 2;plan 1 0;ground 4;cost 5;"
        + "ward 40;ward 60;ward 5;street 0 1;street 1 2;wind 3 0;";
    /** Courses come and fall all the time, and it is never done. */
    private static final String UNREST = "plan 2 0;plan 3 1;plan 9 0;plan 1 0;plan 7 2;plan 3 3;plan 2 0;plan 5 0;plan 1 1;"
        + "hung 1 0;ground 9;cost 4;ward 45;ward 9;ward 12;ward 30;street 0 1;street 0 2;street 1 3;wind 1 0 2 0 0;";
    private static final String FULL = "hung 1 9;".repeat(8) + "plan 9 9;".repeat(8) + "ground 16;cost 1;"
        + "ward 99;".repeat(8) + "wind 9;";

    /** A question with days and what; those without what are asked with 0 alone. */
    private interface Asked {
        int ask(CockTower x, int days, int what);
    }

    public static void main(String[] args) {
        boundsOfDays();
        boundsOfWhat();
        boundsOfWards();
        boundsOfCourses();
        askedOfNothing();
        asDayByDay();
        reaches();
        firstFall();
        doubtersAndMostFaithful();
        worstLeanAndStands();
        richestAndCalm();
        lastAndHeaviest();
        pious();
        share();
        far();
        partsOfTheTown();
        apart();
        even();
        spareAndBears();
        toPreach();
        bestRow();
        toMortar();
        toProp();
        Check.end("EdgesOfAskingTest");
    }

    private static void daysFrom(String name, int least, int whats, Asked asked) {
        for (String text : new String[] {"", SMALL, UNREST, FULL}) {
            for (int what = 0; what < whats; what++) {
                int w = what;
                for (int days : new int[] {MIN, -61, -1, least - 1, 61, 62, 100, MAX}) {
                    Check.part(name + " days " + days + " what " + w);
                    Check.due(Check.ILLEGAL, () -> asked.ask(Check.tower(text), days, w));
                }
                for (int days : new int[] {least, 1, 59, 60}) {
                    Check.part(name + " days " + days + " what " + w);
                    Check.due(true, () -> asked.ask(Check.tower(text), days, w) >= NONE);
                }
            }
        }
    }

    /** "IllegalArgumentException: not 0 to 60", "not 1 to 60" */
    private static void boundsOfDays() {
        daysFrom("then", 0, 7, CockTower::then);
        daysFrom("later", 0, 2, CockTower::later);
        daysFrom("through", 1, 4, CockTower::through);
        daysFrom("toPreach", 1, 1, (x, days, what) -> x.toPreach(days));
        daysFrom("row", 1, 2, CockTower::row);
        daysFrom("toMortar", 1, 1, (x, days, what) -> x.toMortar(days));
        daysFrom("heaviest", 0, 1, (x, days, what) -> x.heaviest(days));
        daysFrom("toProp", 1, 2, CockTower::toProp);
        daysFrom("years", 0, 3, (x, days, what) -> x.years(1, days, what));
        daysFrom("wardThen", 0, 2, (x, days, what) -> withWard(x).wardThen(0, days, what));
        daysFrom("pious", 1, 1, (x, days, what) -> withWard(x).pious(0, days));
        daysFrom("share", 0, 1, (x, days, what) -> withWard(x).share(0, days));
    }

    private static CockTower withWard(CockTower x) {
        return x.count(2) > 0 ? x : Check.tower("ward 0;");
    }

    /** "NoSuchElementException: another what. IllegalArgumentException (behind that)" */
    private static void boundsOfWhat() {
        Asked[] asked = {CockTower::then, CockTower::later, CockTower::through, CockTower::row, CockTower::toProp,
            (x, days, what) -> x.years(1, days, what), (x, days, what) -> withWard(x).wardThen(0, days, what),
            (x, days, what) -> x.heavy(what), (x, days, what) -> x.look(what), (x, days, what) -> x.count(what)};
        int[] whats = {7, 2, 4, 2, 2, 3, 2, 3, 2, 22};
        for (int i = 0; i < asked.length; i++) {
            Asked one = asked[i];
            for (String text : new String[] {"", SMALL, FULL}) {
                for (int what : new int[] {MIN, -2, -1, whats[i], whats[i] + 1, 256, MAX}) {
                    Check.part("question " + i + " what " + what);
                    for (int days : new int[] {MIN, -1, 0, 1, 60, 61, MAX}) {
                        Check.due(Check.NO_ELEMENT, () -> one.ask(Check.tower(text), days, what));
                    }
                }
            }
        }
        for (int what = 0; what < 22; what++) {
            int w = what;
            Check.due(true, () -> Check.tower(FULL).count(w) >= 0 || w == 8);
        }
    }

    /** "NoSuchElementException: no such WARD (as everywhere)" */
    private static void boundsOfWards() {
        for (int wards = 0; wards <= 8; wards++) {
            CockTower x = Check.tower("ward 50;".repeat(wards));
            for (int ward : new int[] {MIN, -1, wards, wards + 1, 8, 9, 32, MAX}) {
                Check.part(wards + " wards, ward " + ward);
                Check.due(Check.NO_ELEMENT, () -> x.ward(ward, 0));
                Check.due(Check.NO_ELEMENT, () -> x.ward(ward, 9));
                Check.due(Check.NO_ELEMENT, () -> x.wardThen(ward, 0, 0));
                Check.due(Check.NO_ELEMENT, () -> x.wardThen(ward, 61, 9));
                Check.due(Check.NO_ELEMENT, () -> x.pious(ward, 1));
                Check.due(Check.NO_ELEMENT, () -> x.pious(ward, 0));
                Check.due(Check.NO_ELEMENT, () -> x.share(ward, 0));
                Check.due(Check.NO_ELEMENT, () -> x.share(ward, 61));
                Check.due(Check.NO_ELEMENT, () -> x.far(ward, ward));
                Check.due(Check.NO_ELEMENT, () -> x.far(ward, 0));
                Check.due(Check.NO_ELEMENT, () -> x.far(0, ward));
                Check.due(Check.NO_ELEMENT, () -> x.apart(ward, ward));
                Check.due(Check.NO_ELEMENT, () -> x.apart(ward, 0));
                Check.due(Check.NO_ELEMENT, () -> x.apart(0, ward));
            }
        }
        for (int wards = 1; wards <= 8; wards++) {
            CockTower x = Check.tower("ward 50;".repeat(wards));
            int last = wards - 1;
            Check.part("the last of " + wards + " wards");
            Check.due(50, () -> x.ward(last, 0));
            Check.due(51, () -> x.wardThen(last, 1, 0));
            Check.due(1, () -> x.pious(last, 1));
            Check.due(100 / (last + 1), () -> x.share(last, 1));
            Check.due(0, () -> x.far(last, last));
            Check.due(NONE, () -> x.apart(last, last));
        }
        // Of a ward that there is: another what.
        CockTower x = Check.tower("ward 50;");
        for (int what : new int[] {MIN, -1, 4, 5, MAX}) {
            Check.due(Check.NO_ELEMENT, () -> x.ward(0, what));
        }
        for (int what = 0; what < 4; what++) {
            int w = what;
            Check.due(new int[] {50, 0, 0, 2}[w], () -> x.ward(0, w));
        }
    }

    /** "NoSuchElementException: no such COURSE, what." */
    private static void boundsOfCourses() {
        for (int all = 0; all <= 16; all++) {
            for (int hung = 0; hung <= all; hung++) {
                CockTower x = Check.tower("hung 2 3;".repeat(hung) + "plan 4 5;".repeat(all - hung));
                Check.part(hung + " of " + all + " courses hang");
                for (int course : new int[] {MIN, -1, all, all + 1, 16, 17, MAX}) {
                    Check.due(Check.NO_ELEMENT, () -> x.course(course, 0));
                    Check.due(Check.NO_ELEMENT, () -> x.course(course, 3));
                }
                for (int c = 0; c < all; c++) {
                    int course = c;
                    boolean hangs = c < hung;
                    Check.due(hangs ? 2 : 4, () -> x.course(course, 0));
                    Check.due(hangs ? 3 : 5, () -> x.course(course, 1));
                    Check.due(hangs ? 1 : 0, () -> x.course(course, 2));
                }
                if (all > 0) {
                    for (int what : new int[] {MIN, -1, 3, MAX}) {
                        Check.due(Check.NO_ELEMENT, () -> x.course(0, what));
                    }
                }
            }
        }
    }

    /** Promise 1: nothing hangs, no WARDS. */
    private static void askedOfNothing() {
        Check.part("asked of nothing");
        for (int again = 0; again < 2; again++) {
            CockTower x = again == 0 ? new CockTower() : Check.tower("");
            int[] then = {0, 0, 99, 0, 0, 0, NONE};
            for (int what = 0; what < 7; what++) {
                int w = what;
                Check.due(then[w], () -> x.then(60, w));
                Check.due(w == 2 ? 0 : then[w], () -> x.then(0, w));
            }
            Check.due(0, () -> x.reaches(0));
            Check.due(NONE, () -> x.reaches(1));
            Check.due(NONE, x::falls);
            Check.due(0, () -> x.later(60, 0));
            Check.due(NONE, () -> x.later(60, 1));
            int[] through = {99, 0, 1, 60};
            for (int what = 0; what < 4; what++) {
                int w = what;
                Check.due(through[w], () -> x.through(60, w));
            }
            Check.due(0, () -> x.toPreach(60));
            Check.due(0, () -> x.row(60, 0));
            Check.due(NONE, () -> x.row(60, 1));
            Check.due(NONE, () -> x.toMortar(60));
            Check.due(0, () -> x.heavy(0));
            Check.due(NONE, () -> x.heavy(1));
            Check.due(1, () -> x.heavy(2));
            Check.due(NONE, () -> x.look(0));
            Check.due(0, () -> x.look(1));
            Check.due(100000, () -> x.gales(5, 10));
            Check.due(0, () -> x.years(1, 60, 0));
            Check.due(0, () -> x.years(1, 60, 1));
            Check.due(0, () -> x.years(1, 60, 2));
            Check.due(NONE, () -> x.heaviest(60));
            Check.due(0, () -> x.toProp(60, 0));
            Check.due(0, () -> x.toProp(60, 1));
            Check.due(Check.NO_ELEMENT, () -> x.game(0, 1, 0));
            for (int what = 12; what <= 15; what++) {
                int w = what;
                Check.due(0, () -> x.count(w));
            }
        }
    }

    /** "(If only DAYS go by, from now on:)": what is asked is what comes, for 0 to 60 days. */
    private static void asDayByDay() {
        for (String text : new String[] {SMALL, UNREST, FULL, "hung 9 0;".repeat(8) + "ward 99;ward 99;wind 0;cost 1;plan 1 0;"}) {
            CockTower real = Check.tower(text);
            int fell = 0;
            int worst = 0;
            int stands = 0;
            int calm = 0;
            int pious = 0;
            int given = 0;
            int all = 0;
            int most = 0;
            int richest = 1;
            int firstFall = NONE;
            for (int d = 0; d <= 60; d++) {
                Check.part("behind " + d + " days of [" + text + "]");
                int days = d;
                CockTower x = Check.tower(text);
                int[] then = {real.count(0), real.count(6), real.count(5), real.count(4), real.count(1), fell,
                    real.count(0) == 0 ? NONE : real.course(real.count(0) - 1, 0)};
                for (int what = 0; what < 7; what++) {
                    int w = what;
                    Check.due(then[w], () -> x.then(days, w));
                }
                Check.due(real.ward(1, 0), () -> x.wardThen(1, days, 0));
                int g = given;
                Check.due(g, () -> x.wardThen(1, days, 1));
                int share = all == 0 ? 0 : 100 * given / all;
                Check.due(share, () -> x.share(1, days));
                Check.due(real.count(15), () -> x.later(days, 0));
                if (d > 0) {
                    int[] through = {worst, stands, richest, calm};
                    for (int what = 0; what < 4; what++) {
                        int w = what;
                        Check.due(through[w], () -> x.through(days, w));
                    }
                    int p = pious;
                    Check.due(p, () -> x.pious(1, days));
                }
                int gives = 0;
                for (int w = 0; w < real.count(2); w++) {
                    gives += real.ward(w, 3);
                }
                all += gives;
                given += real.ward(1, 3);
                if (gives > most) {
                    most = gives;
                    richest = d + 1;
                }
                real.days(1);
                if (d % 9 == 8) {
                    real = again(text, d + 1);
                }
                fell += real.count(11);
                worst = Math.max(worst, real.count(5));
                stands += real.count(10);
                calm += real.count(11) == 0 ? 1 : 0;
                pious += real.ward(1, 0) >= 50 ? 1 : 0;
                firstFall = firstFall == NONE && real.count(11) > 0 ? d + 1 : firstFall;
            }
            int first = firstFall > 60 ? NONE : firstFall;
            Check.due(first, () -> Check.tower(text).falls());
        }
    }

    /** A new tower behind so many days, because one is used for 512 calls at most. */
    private static CockTower again(String text, int days) {
        CockTower x = Check.tower(text);
        for (int i = 0; i < days; i++) {
            x.days(1);
        }
        return x;
    }

    /** "REACHES: behind how many DAYS (0 to 60) so many COURSES (0 to 16) or more hang first; none." */
    private static void reaches() {
        Check.part("reaches");
        for (int wrong : new int[] {MIN, -1, 17, 18, MAX}) {
            Check.due(Check.ILLEGAL, () -> new CockTower().reaches(wrong));
            Check.due(Check.ILLEGAL, () -> Check.tower(FULL).reaches(wrong));
        }
        // One comes a day, from 0 up to 16.
        CockTower x = Check.tower("plan 1 9;".repeat(16) + "ground 16;cost 1;wind 0;ward 20;gives 1;");
        for (int courses = 0; courses <= 16; courses++) {
            int due = courses;
            Check.due(due, () -> x.reaches(due));
        }
        CockTower full = Check.tower("hung 1 9;".repeat(16));
        Check.due(0, () -> full.reaches(16));
        Check.due(0, () -> full.reaches(15));
        // Money of 1 a day: a cost of 60 is met on the 60th day, one of 61 a day too late.
        for (int cost = 58; cost <= 62; cost++) {
            int due = cost <= 60 ? cost : NONE;
            String text = "plan 1 9;wind 0;ward 1;gives 1;cost " + cost + ";";
            Check.due(due, () -> Check.tower(text).reaches(1));
            CockTower later = Check.tower(text);
            later.days(1);
            Check.due(cost <= 61 ? cost - 1 : NONE, () -> later.reaches(1));
        }
        // First: that it falls later does not matter, nor that it comes again.
        CockTower falls = Check.tower("hung 3 0;hung 1 0;ward 40;wind 0;believes 0-9;");
        Check.due(0, () -> falls.reaches(2));
        Check.due(0, () -> falls.then(60, 0));
        CockTower comes = Check.tower("hung 3 0;plan 2 0;plan 1 0;ward 40;wind 0;believes 0;cost 2;");
        // 5 on 4 falls on the first day, 4 on 4 holds on the second.
        Check.due(2, () -> comes.reaches(2));
    }

    /** "FIRST FALL: on the how manyth DAY from now (1 to 60) anything falls first; none." */
    private static void firstFall() {
        for (int day = 1; day <= 61; day++) {
            Check.part("a fall on day " + day);
            String text = "hung 5 0;hung 5 9;ward 10;believes 0;leans (day=" + (day - 1) + ")*5;";
            int due = day <= 60 ? day : NONE;
            CockTower x = Check.tower(text);
            Check.due(due, x::falls);
            x.days(1);
            Check.due(day == 1 ? NONE : day - 1, x::falls);
        }
        Check.part("falls twice");
        CockTower twice = Check.tower("hung 1 0;hung 4 0;ward 90;believes 0-(day<9)*9;leans 0;");
        // 90 holds 9 ..; 36 holds 3 on the 7th day, 9 nothing on the 10th.
        Check.due(6, twice::falls);
        Check.due(1, () -> twice.then(6, 5));
    }

    /** "DOUBTERS then: WARDS whose FAITH is below 10 (bits); MOST FAITHFUL then: which (of like ones the least); none." */
    private static void doubtersAndMostFaithful() {
        Check.part("doubters, most faithful");
        CockTower x = Check.tower("ward 0;ward 9;ward 10;ward 11;ward 99;ward 10;ward 9;ward 0;");
        Check.due(0b11000011, () -> x.count(15));
        Check.due(0b11000011, () -> x.later(0, 0));
        Check.due(4, () -> x.later(0, 1));
        // 1 more a day: 9 becomes 10, 0 becomes 10 on the 10th.
        Check.due(0b10000001, () -> x.later(1, 0));
        Check.due(0b10000001, () -> x.later(9, 0));
        Check.due(0, () -> x.later(10, 0));
        Check.due(255, () -> Check.tower("ward 9;".repeat(8)).count(15));
        Check.due(0, () -> Check.tower("ward 10;".repeat(8)).count(15));
        // Like ones: all at 99 at last.
        Check.due(0, () -> Check.tower("ward 98;ward 99;ward 97;").later(2, 1));
        Check.due(1, () -> Check.tower("ward 98;ward 99;ward 97;").later(0, 1));
        Check.due(0, () -> Check.tower("ward 0;ward 0;").later(0, 1));
        Check.due(7, () -> Check.tower("ward 0;".repeat(7) + "ward 1;").later(0, 1));
        Check.due(0, () -> Check.tower("ward 5;".repeat(8)).later(60, 1));
        Check.due(NONE, () -> Check.tower("hung 1 0;").later(0, 1));
    }

    /** "WORST LEAN of so many DAYS: the most at the end of any. STANDS: for how many .. it is DONE at the end." */
    private static void worstLeanAndStands() {
        Check.part("worst lean, stands");
        CockTower x = Check.tower("leans (day<3)*9-(2<day)*9;");
        int[] worst = {9, 18, 27, 27, 27, 27};
        for (int days = 1; days <= 6; days++) {
            int d = days;
            Check.due(worst[d - 1], () -> x.through(d, 0));
        }
        // What it leans now is the end of no day to come.
        x.days(3);
        Check.due(18, () -> x.through(1, 0));
        Check.due(18, () -> x.through(60, 0));
        x.days(3);
        Check.due(0, () -> x.through(60, 0));
        // It is done on the 60th day, or never in time.
        for (int cost = 59; cost <= 61; cost++) {
            int due = Math.max(0, 61 - cost);
            String text = "hung 1 9;plan 1 9;ground 2;wind 0;ward 1;gives 1;cost " + cost + ";";
            Check.due(due, () -> Check.tower(text).through(60, 1));
            Check.due(Math.max(0, 60 - cost), () -> Check.tower(text).through(59, 1));
        }
        Check.due(1, () -> Check.tower("hung 1 0;hung 1 0;ground 2;").through(1, 1));
        Check.due(0, () -> Check.tower("hung 1 0;hung 1 0;ground 3;").through(60, 1));
    }

    /** "RICHEST DAY ..: the how manyth .. (of like ones the first; 1 without any). CALM: in how many .. nothing falls." */
    private static void richestAndCalm() {
        Check.part("richest, calm");
        for (int day = 0; day <= 60; day++) {
            String text = "ward 1;ward 1;gives 3+(day=" + day + ");";
            int due = day < 60 ? day + 1 : 1;
            Check.due(due, () -> Check.tower(text).through(60, 2));
        }
        Check.due(1, () -> Check.tower("ward 1;gives 0;").through(60, 2));
        Check.due(1, () -> Check.tower("ward 1;gives 5;").through(60, 2));
        Check.due(1, () -> Check.tower("hung 1 0;").through(60, 2));
        // Like ones: the 3rd and the 5th.
        CockTower like = Check.tower("ward 1;gives (day=2 or day=4)*7;");
        Check.due(3, () -> like.through(60, 2));
        Check.due(1, () -> like.through(2, 2));
        Check.due(3, () -> like.through(3, 2));
        // All together, not the most of one: 20 on the first day, 11 and 11 on the second.
        CockTower both = Check.tower("ward 1;ward 2;believes 0;gives (day=0)*(faith=1)*20+(day=1)*11;");
        Check.due(2, () -> both.through(2, 2));
        // What is lost above 999 is given: 999 is there, and 1 more a day counts.
        CockTower lost = Check.tower("ward 1;gives 1+(day=1);");
        for (int i = 0; i < 11; i++) {
            lost.give(99);
        }
        Check.due(999, () -> lost.count(4));
        Check.due(2, () -> lost.through(9, 2));
        for (int fall = 0; fall <= 60; fall++) {
            String text = "hung 5 0;hung 5 9;ward 10;believes 0;leans (day=" + fall + ")*5;";
            Check.due(fall < 60 ? 59 : 60, () -> Check.tower(text).through(60, 3));
        }
        // Two that fall on one day are one day.
        Check.due(4, () -> Check.tower("hung 9 0;hung 9 0;wind 0;").through(5, 3));
        Check.due(0, () -> Check.tower("hung 9 0;hung 9 0;wind 0;").through(1, 3));
    }

    /** "LAST: WEIGHT of the COURSE that is lowest then; none."; "HEAVIEST then: (of like ones the least); none." */
    private static void lastAndHeaviest() {
        Check.part("last, heaviest");
        CockTower x = Check.tower("hung 3 0;hung 9 0;plan 7 0;plan 9 9;ward 99;ward 99;ward 99;cost 3;wind 0;gives 1;believes 0;");
        int[] last = {9, 7, 9, 9};
        int[] heaviest = {1, 1, 1, 1};
        for (int days = 0; days < 4; days++) {
            int d = days;
            Check.due(last[d], () -> x.then(d, 6));
            Check.due(heaviest[d], () -> x.heaviest(d));
        }
        CockTower grows = Check.tower("hung 1 0;plan 2 0;plan 2 0;plan 3 0;ward 99;cost 1;gives 1;wind 0;");
        int[] due = {0, 1, 1, 3, 3};
        for (int days = 0; days < 5; days++) {
            int d = days;
            Check.due(due[d], () -> grows.heaviest(d));
        }
        // The plan does not hang.
        Check.due(NONE, () -> Check.tower("plan 9 0;").heaviest(0));
        Check.due(NONE, () -> Check.tower("plan 9 0;").then(0, 6));
        Check.due(15, () -> Check.tower("hung 8 0;".repeat(15) + "hung 9 0;").heaviest(60));
        Check.due(0, () -> Check.tower("hung 9 0;".repeat(16)).heaviest(60));
        Check.due(9, () -> Check.tower("hung 8 0;".repeat(15) + "hung 9 0;").then(60, 6));
    }

    /** "PIOUS: in how many of so many DAYS (1 to 60) FAITH of a WARD is 50 or more at the end." */
    private static void pious() {
        Check.part("pious");
        int[][] faithAndDue = {{48, 0}, {49, 1}, {50, 1}, {51, 1}};
        for (int[] one : faithAndDue) {
            Check.due(one[1], () -> Check.tower("ward " + one[0] + ";").pious(0, 1));
        }
        // Now does not count: 50 is 49 at the end.
        Check.due(0, () -> Check.tower("ward 50;believes 0-1;").pious(0, 60));
        Check.due(1, () -> Check.tower("ward 51;believes 0-1;").pious(0, 60));
        Check.due(60, () -> Check.tower("ward 50;believes 0;").pious(0, 60));
        Check.due(59, () -> Check.tower("ward 48;").pious(0, 60));
        Check.due(0, () -> Check.tower("ward 49;believes 0;").pious(0, 60));
    }

    /** "SHARE of a WARD: .. how much in a hundred it gives, cut down (0, if nobody gives)." */
    private static void share() {
        Check.part("share");
        // 1 of 3, 2 of 3; 1 of 200 and 199 of 200 are less than 1 and than 100.
        CockTower x = Check.tower("ward 1;ward 2;gives faith;believes 0;");
        Check.due(33, () -> x.share(0, 1));
        Check.due(66, () -> x.share(1, 1));
        Check.due(33, () -> x.share(0, 60));
        Check.due(0, () -> x.share(0, 0));
        CockTower little = Check.tower("ward 1;ward 20;believes 0;gives (faith=1)*(day=0)+(faith=20)*20;");
        Check.due(4, () -> little.share(0, 1));
        Check.due(95, () -> little.share(1, 1));
        // 1 of 101: 0 in a hundred, and 99 of the other one.
        Check.due(0, () -> little.share(0, 5));
        Check.due(99, () -> little.share(1, 5));
        CockTower one = Check.tower("ward 1;ward 2;gives (faith=1)*7;believes 0;");
        Check.due(100, () -> one.share(0, 60));
        Check.due(0, () -> one.share(1, 60));
        CockTower none = Check.tower("ward 99;ward 99;gives 0;");
        Check.due(0, () -> none.share(0, 60));
        // All that can be given: 8 wards, 60 days, 20 each.
        Check.due(12, () -> Check.tower("ward 1;".repeat(8) + "gives 20;").share(7, 60));
    }

    /** "HOW FAR it is from WARD to WARD by STREETS (0 to itself); none." */
    private static void far() {
        Check.part("far");
        StringBuilder path = new StringBuilder("ward 1;".repeat(8));
        for (int w = 0; w < 7; w++) {
            path.append("street ").append(w).append(' ').append(w + 1).append(';');
        }
        CockTower x = Check.tower(path.toString());
        for (int a = 0; a < 8; a++) {
            for (int b = 0; b < 8; b++) {
                int one = a;
                int two = b;
                Check.due(Math.abs(a - b), () -> x.far(one, two));
            }
        }
        CockTower ring = Check.tower(path + "street 7 0;");
        for (int a = 0; a < 8; a++) {
            for (int b = 0; b < 8; b++) {
                int one = a;
                int two = b;
                int along = Math.abs(a - b);
                Check.due(Math.min(along, 8 - along), () -> ring.far(one, two));
            }
        }
        CockTower none = Check.tower("ward 1;".repeat(8));
        for (int b = 0; b < 8; b++) {
            int two = b;
            Check.due(b == 3 ? 0 : NONE, () -> none.far(3, two));
        }
    }

    /** "PARTS of the town." */
    private static void partsOfTheTown() {
        Check.part("parts");
        for (int wards = 0; wards <= 8; wards++) {
            int due = wards;
            Check.due(due, () -> Check.tower("ward 1;".repeat(due)).count(12));
        }
        CockTower x = Check.tower("ward 1;".repeat(8));
        // A path whose wards are told in no row: each street joins two parts.
        int[] row = {7, 0, 5, 2, 6, 1, 4, 3};
        for (int i = 1; i < 8; i++) {
            int joined = i;
            Check.due(true, () -> x.street(row[joined - 1], row[joined], true));
            Check.due(8 - joined, () -> x.count(12));
        }
        Check.due(7, () -> x.far(7, 3));
        x.street(7, 3, true);
        Check.due(1, () -> x.count(12));
    }

    /** "KEPT APART: the fewest WARDS (neither of both) ..: of as few the least as bits; none (side by side, both are one)." */
    private static void apart() {
        Check.part("apart");
        StringBuilder between = new StringBuilder("ward 1;".repeat(8));
        for (int w = 1; w <= 6; w++) {
            between.append("street 0 ").append(w).append(";street 7 ").append(w).append(';');
        }
        CockTower all = Check.tower(between.toString());
        Check.due(126, () -> all.apart(0, 7));
        Check.due(126, () -> all.apart(7, 0));
        Check.due(0b10000001, () -> all.apart(1, 2));
        Check.due(NONE, () -> all.apart(0, 1));
        all.street(0, 7, true);
        Check.due(NONE, () -> all.apart(0, 7));
        all.undo();
        all.street(3, 7, false);
        Check.due(126 - 8, () -> all.apart(0, 7));
        // Two of as few: 1 and 6 (66), 2 and 5 (36): 36 is less, though 1 is the least ward.
        CockTower two = Check.tower("ward 1;".repeat(8) + "street 0 1;street 1 2;street 2 7;street 0 6;street 6 5;street 5 7;");
        Check.due(0b100010, () -> two.apart(0, 7));
        Check.due(0b100010, () -> two.apart(7, 0));
        CockTower less = Check.tower("ward 1;".repeat(8) + "street 0 1;street 1 4;street 4 7;street 0 3;street 3 2;street 2 7;");
        Check.due(0b110, () -> less.apart(0, 7));
        // No way anyway: none need be told.
        CockTower none = Check.tower("ward 1;ward 1;ward 1;street 0 1;");
        Check.due(0, () -> none.apart(0, 2));
        Check.due(0, () -> none.apart(2, 1));
        Check.due(NONE, () -> none.apart(1, 0));
        for (int w = 0; w < 3; w++) {
            int ward = w;
            Check.due(NONE, () -> none.apart(ward, ward));
        }
        none.street(0, 1, false);
        Check.due(0, () -> none.apart(1, 0));
    }

    /** "EVEN: .. differs least: by how much; the one with WARD 0 (bits; of like ones the least)." */
    private static void even() {
        Check.part("even");
        for (int faith = 0; faith <= 99; faith += 33) {
            int all = faith;
            CockTower x = Check.tower("ward " + faith + ";");
            Check.due(all, () -> x.count(13));
            Check.due(1, () -> x.count(14));
        }
        CockTower eight = Check.tower("ward 99;".repeat(8));
        Check.due(0, () -> eight.count(13));
        Check.due(0b1111, () -> eight.count(14));
        CockTower seven = Check.tower("ward 99;".repeat(7));
        Check.due(99, () -> seven.count(13));
        // Three with ward 0 against four is as far as four against three: 7 is less.
        Check.due(0b111, () -> seven.count(14));
        CockTower zeros = Check.tower("ward 0;".repeat(8));
        Check.due(0, () -> zeros.count(13));
        Check.due(1, () -> zeros.count(14));
        // Ward 0 alone is less than all: everything else stands against it.
        CockTower alone = Check.tower("ward 99;" + "ward 10;".repeat(7));
        Check.due(29, () -> alone.count(13));
        Check.due(1, () -> alone.count(14));
        CockTower small = Check.tower("ward 1;ward 0;ward 99;");
        Check.due(98, () -> small.count(13));
        Check.due(0b01, () -> small.count(14));
        CockTower last = Check.tower("ward 1;ward 2;ward 4;ward 8;ward 16;ward 32;ward 64;ward 99;");
        // 226 in all, 113 each: 1, 16, 32 and 64 with ward 0; 99, 8, 4 and 2 against it.
        Check.due(0, () -> last.count(13));
        Check.due(0b01110001, () -> last.count(14));
    }

    /** "SPARE: .. (it may be below 0). BEARS: the most COURSES of the PLAN .. (be it so of fewer or not) .. (.. 0, if there are none such)." */
    private static void spareAndBears() {
        Check.part("spare, bears");
        Check.due(-144, () -> Check.tower("hung 9 0;".repeat(16)).count(8));
        Check.due(79 + 144 - 16, () -> Check.tower("ward 99;".repeat(8) + "hung 1 9;".repeat(16)).count(8));
        Check.due(0, () -> Check.tower("ward 50;hung 5 0;").count(8));
        Check.due(-1, () -> Check.tower("ward 49;hung 5 0;").count(8));
        // Just borne, and one too many.
        for (int plan = 0; plan <= 16; plan++) {
            int many = plan;
            Check.due(many, () -> Check.tower("ward 99;ward 61;" + "plan 1 0;".repeat(many)).count(9));
            Check.due(Math.min(many, 15), () -> Check.tower("ward 99;ward 60;" + "plan 1 0;".repeat(many)).count(9));
            Check.due(0, () -> Check.tower("ward 9;" + "plan 1 0;".repeat(many)).count(9));
        }
        // Not of one, two, three; of four: then of no more.
        Check.due(4, () -> Check.tower("plan 2 0;plan 1 1;plan 3 3;plan 1 3;plan 1 0;").count(9));
        Check.due(5, () -> Check.tower("plan 2 0;plan 1 1;plan 3 3;plan 1 3;plan 1 1;").count(9));
        Check.due(0, () -> Check.tower("plan 2 0;plan 1 1;plan 3 3;plan 1 2;plan 1 1;").count(9));
        Check.due(0, () -> Check.tower("ward 99;hung 1 0;").count(9));
        // As it leans: 4 weighs nothing, 5 one.
        for (int lean = 4; lean <= 5; lean++) {
            CockTower x = Check.tower("ward 10;plan 1 0;believes 0;gives 0;wind " + lean + ";");
            x.days(1);
            Check.due(lean == 4 ? 1 : 0, () -> x.count(9));
            Check.due(lean == 4 ? 1 : 0, () -> x.count(8));
        }
        // Done, so that nothing would fall: it counts as if it were not.
        Check.due(0, () -> Check.tower("ground 2;hung 9 0;hung 9 0;plan 1 0;plan 1 0;").count(9));
        Check.due(0, () -> Check.tower("ground 2;hung 1 1;plan 2 0;plan 1 0;").count(9));
    }

    /** "TO PREACH: the fewest WARDS ..: of as few the least as bits; none." */
    private static void toPreach() {
        Check.part("toPreach");
        // It falls on the 60th day, so that 59 need nothing; one sermon holds it.
        String late = "hung 5 0;hung 5 9;ward 10;believes 0;leans (day=59)*5;";
        Check.due(0, () -> Check.tower(late).toPreach(59));
        Check.due(1, () -> Check.tower(late).toPreach(60));
        // All eight are needed, and no more can be.
        for (int weight = 7; weight <= 9; weight++) {
            String text = "hung " + weight + " 0;ward 0;ward 0;ward 0;ward 0;ward 0;ward 0;ward 0;ward 0;leans 0;believes 0;";
            int due = weight == 7 ? 127 : weight == 8 ? 255 : NONE;
            Check.due(due, () -> Check.tower(text).toPreach(1));
            Check.due(due, () -> Check.tower(text).toPreach(60));
        }
        // 570 of faith hold 57 of 58: 1, 5, 5, 9, 0 or 4 more by a sermon, and 10 are needed.
        CockTower bits = Check.tower("ward 98;ward 94;ward 94;ward 90;ward 99;ward 95;" + "hung 9 0;".repeat(6)
            + "hung 4 0;leans 0;believes 0;");
        Check.due(0b110, () -> bits.toPreach(1));
        // One of 99 can't be helped by it, and is never told.
        Check.due(2, () -> Check.tower("ward 99;ward 9;hung 9 0;hung 2 0;leans 0;").toPreach(1));
        Check.due(NONE, () -> Check.tower("ward 99;hung 9 0;hung 1 0;leans 0;").toPreach(1));
        Check.due(0, () -> Check.tower("ward 99;hung 9 0;leans 0;").toPreach(60));
        // It is done, and needs nobody.
        Check.due(0, () -> Check.tower("ground 2;hung 9 0;hung 9 0;ward 0;").toPreach(60));
        // Without wards nobody can be told.
        Check.due(NONE, () -> Check.tower("hung 9 0;").toPreach(1));
        Check.due(0, () -> Check.tower("plan 9 0;").toPreach(60));
        // A sermon that ends a doubt holds more than its 10: both doubt ward 1 else.
        Check.due(0b10, () -> Check.tower("ward 30;ward 9;ward 30;street 0 1;street 1 2;hung 6 0;leans 0;"
            + "believes 0-doubt*9;").toPreach(3));
    }

    /** "BEST ROW of the PLAN, its first COURSES (at most 4), in another row: .. the first row of such" */
    private static void bestRow() {
        Check.part("row");
        int[] asItIs = {NONE, 0, 1, 12, 123, 123, 123};
        for (int plan = 0; plan <= 6; plan++) {
            int many = plan;
            CockTower x = Check.tower("plan 1 0;".repeat(many) + "ward 99;wind 0;gives 10;");
            Check.due(asItIs[many], () -> x.row(60, 1));
            Check.due(Math.min(many, 6), () -> x.row(60, 0));
            Check.due(Math.min(many, 1), () -> x.row(1, 0));
        }
        // One course of four is light, and one hangs in a day: it comes first, the others as they are.
        int[] first = {123, 1023, 2013, 3012};
        for (int light = 0; light < 4; light++) {
            StringBuilder text = new StringBuilder("ward 10;wind 0;gives 10;believes 0;");
            for (int c = 0; c < 4; c++) {
                text.append(c == light ? "plan 1 0;" : "plan 2 0;");
            }
            int due = first[light];
            Check.due(due, () -> Check.tower(text.toString()).row(1, 1));
            Check.due(1, () -> Check.tower(text.toString()).row(1, 0));
        }
        eachRowOfFour();
        // The fifth is light, and stays where it is.
        CockTower fifth = Check.tower("plan 2 0;plan 2 0;plan 2 0;plan 2 0;plan 1 0;ward 10;wind 0;gives 10;believes 0;");
        Check.due(123, () -> fifth.row(1, 1));
        Check.due(0, () -> fifth.row(4, 0));
        Check.due(1, () -> fifth.row(5, 0));
        // Of one, two, three or four that are all too heavy none hangs: there is no other place to take one from.
        for (int plan = 1; plan <= 4; plan++) {
            int many = plan;
            for (String hung : new String[] {"", "hung 1 9;".repeat(12)}) {
                CockTower heavy = Check.tower(hung + "plan 9 0;".repeat(many) + "gives 10;leans 0;believes 0;ward 1;ground 16;");
                if (hung.isEmpty()) {
                    Check.due(asItIs[many], () -> heavy.row(many, 1));
                    Check.due(0, () -> heavy.row(many, 0));
                } else {
                    Check.due(asItIs[many], () -> heavy.row(60, 1));
                    Check.due(12 + many, () -> heavy.row(60, 0));
                }
            }
        }
        // What hangs counts too, and the plan is as it was.
        CockTower hung = Check.tower("hung 1 9;plan 1 0;");
        Check.due(1, () -> hung.row(1, 0));
        Check.due(0, () -> hung.row(1, 1));
        Check.due(1, () -> hung.count(1));
    }

    /** It holds 1, 3, 6 and 10 on the first four days, so that 1, 2, 3 and 4 must come one behind the other. */
    private static void eachRowOfFour() {
        String holds = "ward 10;ward 0;ward 0;ward 0;ward 0;leans 0;cost 1;gives 1;believes (day=0)*4+(day=1)*6+(day=2)*8;";
        int rows = 0;
        for (int row = 0; row < 10000; row++) {
            int[] places = {row / 1000, row / 100 % 10, row / 10 % 10, row % 10};
            int[] weight = new int[4];
            boolean each = true;
            for (int i = 0; i < 4; i++) {
                each = each && places[i] < 4 && weight[places[i]] == 0;
                if (each) {
                    weight[places[i]] = i + 1;
                }
            }
            if (each) {
                rows++;
                StringBuilder text = new StringBuilder(holds);
                for (int one : weight) {
                    text.append("plan ").append(one).append(" 0;");
                }
                int due = row;
                Check.due(due, () -> Check.tower(text.toString()).row(4, 1));
                Check.due(4, () -> Check.tower(text.toString()).row(4, 0));
                // A fifth one behind them changes nothing.
                Check.due(due, () -> Check.tower(text + "plan 9 0;").row(4, 1));
            }
        }
        int all = rows;
        Check.due(24, () -> all);
    }

    /** "TO MORTAR: the COURSE that hangs by whose MORTAR, 1 more now (below 9), most COURSES hang .., if more than without (of like ones the least); none." */
    private static void toMortar() {
        Check.part("toMortar");
        for (int mortar = 7; mortar <= 9; mortar++) {
            // One more is needed than there is: with 9 there is none to put it on.
            String text = "hung 9 " + mortar + ";believes 0;" + (mortar == 9 ? "leans (day=0)*5;" : "leans 0;ward "
                + (80 - 10 * mortar) + ";");
            int due = mortar <= 8 ? 0 : NONE;
            Check.due(due, () -> Check.tower(text).toMortar(1));
            Check.due(due, () -> Check.tower(text).toMortar(60));
        }
        // The first that has below 9, of like ones the least.
        Check.due(2, () -> Check.tower("hung 9 9;hung 9 9;hung 9 8;leans 0;").toMortar(1));
        Check.due(0, () -> Check.tower("hung 9 8;hung 9 9;hung 9 9;leans 0;").toMortar(1));
        Check.due(1, () -> Check.tower("hung 9 9;hung 9 8;hung 1 1;leans 0;").toMortar(1));
        // Not if two more are needed, and not if none is.
        Check.due(NONE, () -> Check.tower("hung 9 7;leans 0;").toMortar(1));
        Check.due(NONE, () -> Check.tower("hung 9 9;leans 0;").toMortar(1));
        // Most, not the first that is more: on the lowest one it falls away with it.
        Check.due(0, () -> Check.tower("hung 2 1;hung 5 5;hung 9 0;leans 0;").toMortar(1));
        // Late: the fall of the 60th day.
        String late = "hung 5 0;hung 5 9;ward 10;believes 0;leans (day=59)*5;";
        Check.due(NONE, () -> Check.tower(late).toMortar(59));
        Check.due(0, () -> Check.tower(late).toMortar(60));
        // Sixteen hang: nothing is gained.
        Check.due(NONE, () -> Check.tower("hung 9 0;".repeat(16)).toMortar(60));
    }

    /** "TO PROP: behind how many DAYS (0 up to these) ..: PROPPED behind all of them it changes nothing; of like ones the fewest" */
    private static void toProp() {
        Check.part("toProp");
        // It leans by 4 a day and holds 4: a prop puts off the fall of the second day.
        CockTower x = Check.tower("hung 5 0;ward 50;believes 0;wind 4;");
        int[][] due = {{0, 1}, {1, 1}, {0, 0}};
        for (int days = 1; days <= 3; days++) {
            int d = days;
            Check.due(due[d - 1][0], () -> x.toProp(d, 0));
            Check.due(due[d - 1][1], () -> x.toProp(d, 1));
        }
        // On the last day but one of 60: propped behind 59, which is too late behind 60.
        CockTower late = Check.tower("hung 5 0;ward 50;believes 0;leans (day=58)*4+(day=59)*4;");
        Check.due(59, () -> late.toProp(60, 0));
        Check.due(1, () -> late.toProp(60, 1));
        Check.due(0, () -> late.toProp(59, 0));
        // Any prop does harm but the one behind all.
        CockTower harm = Check.tower("hung 5 0;ward 50;believes 0;leans (day=0)*4+(0<day)*(lean=0)*5;");
        harm.days(1);
        for (int days = 1; days <= 60; days += 59) {
            int d = days;
            Check.due(d, () -> harm.toProp(d, 0));
            Check.due(1, () -> harm.toProp(d, 1));
        }
        // Without any lean nothing changes: the fewest.
        Check.due(0, () -> Check.tower("hung 1 9;wind 0;").toProp(60, 0));
        Check.due(1, () -> Check.tower("hung 1 9;wind 0;").toProp(60, 1));
        // It leans by 4 now: a prop now holds it, one behind the day would be too late.
        CockTower now = Check.tower("hung 5 0;ward 50;believes 0;leans (day=0)*4+(day=1)*4;");
        now.days(1);
        Check.due(0, () -> now.toProp(1, 0));
        Check.due(1, () -> now.toProp(1, 1));
        Check.due(0, () -> now.then(1, 0));
    }
}
