/** Of "Terms" (what rules give), "==== 2" and promises 8 to 14: each bound of a day and of an act, on both sides. */
public final class EdgesOfDayTest {
    private static final int NONE = CockTower.NONE;
    private static final int MIN = Integer.MIN_VALUE;
    private static final int MAX = Integer.MAX_VALUE;
    /** 2 to the power of 31, which wraps to the least number. */
    private static final String LEAST = "4096*4096*128";
    private static final String GREATEST = "(" + LEAST + "-1)";

    public static void main(String[] args) {
        fromTheLeft();
        intsThatWrap();
        cutDownTo0();
        testsAre1Or0();
        valuesAtTheirEnds();
        doubtBelow10();
        atFirst();
        strengthCutDown();
        done();
        leanKept();
        leanWithoutARule();
        giftsKept();
        moneyAtMost999();
        costOrMore();
        moreThanStrength();
        fallsFromBelow();
        nothingHangs();
        beliefKept();
        beliefWithoutARule();
        aheadOfAllOfThem();
        daysFrom1To20();
        daysUpTo9999();
        giftFrom1To99();
        preachUpTo99();
        mortarUpTo9();
        propFrom1();
        streetsOfAllWards();
        undoEachAct();
        undoFalls();
        atMost40Kept();
        refusedActsAreNotKept();
        Check.end("EdgesOfDayTest");
    }

    /** The rule's answer is as due, an int from the least to the greatest. */
    private static void gives(int due, String expr) {
        Check.part("leans " + expr);
        String number = due == MIN ? LEAST : due < 0 ? "0-(" + spelled(-due) + ")" : spelled(due);
        Check.due(3, () -> Check.tower("leans 3*((" + expr + ")=(" + number + "));").then(1, 2));
    }

    private static String spelled(int number) {
        return number < 10000 ? "" + number : "(" + spelled(number / 9999) + ")*9999+" + number % 9999;
    }

    /** "From the left" */
    private static void fromTheLeft() {
        gives(4, "9-3-2");
        gives(8, "9-3+2");
        gives(1, "8/4/2");
        gives(4, "8/4*2");
        gives(1, "2*3/4");
        gives(14, "2+3*4");
        gives(-10, "2-3*4");
        gives(1, "1 or 0 and 0");
        gives(0, "0 and 0 or 0");
        gives(1, "0 and 1 or 1");
        gives(0, "not 1 and 0");
        gives(1, "not 0 and 1");
        gives(0, "not 1=1");
        gives(1, "not 1+1=1");
        gives(1, "1+1<3");
        gives(0, "3<1+1");
    }

    /** "ints that wrap" */
    private static void intsThatWrap() {
        gives(MIN, LEAST);
        gives(9999 * 9999, "9999*9999");
        gives((int) (9999L * 9999 * 9999), "9999*9999*9999");
        gives(1, GREATEST + "+1=" + LEAST);
        gives(1, LEAST + "-1=" + GREATEST);
        gives(MIN, "0-" + LEAST);
        gives(0, LEAST + "*2");
        gives(0, LEAST + "+" + LEAST);
        gives(1, GREATEST + "*" + GREATEST);
        gives(-2, GREATEST + "+" + GREATEST);
        // A test looks at the numbers themselves, not at what one less the other wraps to.
        gives(1, LEAST + "<" + GREATEST);
        gives(0, GREATEST + "<" + LEAST);
        gives(1, LEAST + "<1");
        gives(0, "1<" + LEAST);
        gives(1, "0-2<" + GREATEST);
        gives(0, GREATEST + "<0-2");
        gives(0, LEAST + "=0");
    }

    /** "/ cut down to 0, by 0 gives 0" */
    private static void cutDownTo0() {
        gives(3, "7/2");
        gives(-3, "(0-7)/2");
        gives(-3, "7/(0-2)");
        gives(3, "(0-7)/(0-2)");
        gives(0, "1/2");
        gives(0, "(0-1)/2");
        gives(0, "9998/9999");
        gives(1, "9999/9999");
        gives(0, "5/0");
        gives(0, "0/0");
        gives(0, "(0-5)/0");
        gives(0, LEAST + "/0");
        gives(0, "0/5");
        gives(MIN, LEAST + "/(0-1)");
        gives(-MAX, GREATEST + "/(0-1)");
        gives(1, LEAST + "/(" + LEAST + ")");
        gives(7, "1/0+7");
        gives(0, "5/(3-3)");
    }

    /** "tests, not, and, or are 1 or 0 (what isn't 0 holds)" */
    private static void testsAre1Or0() {
        String[] hold = {"1", "2", "9999", "0-1", LEAST, GREATEST, "256", "4096*16"};
        for (String one : hold) {
            gives(0, "not(" + one + ")");
            gives(1, "not not(" + one + ")");
            gives(1, "(" + one + ")or 0");
            gives(1, "0 or(" + one + ")");
            gives(0, "(" + one + ")and 0");
            gives(0, "0 and(" + one + ")");
            for (String two : hold) {
                gives(1, "(" + one + ")and(" + two + ")");
                gives(1, "(" + one + ")or(" + two + ")");
            }
        }
        gives(1, "not 0");
        gives(0, "0 or 0");
        gives(0, "0 and 0");
        gives(0, "4096*4096*256 or 0");
        gives(1, "2<3");
        gives(0, "3<3");
        gives(0, "4<3");
        gives(0, "2=3");
        gives(1, "3=3");
        gives(0, "4=3");
        gives(1, "(0-3)<(0-2)");
        gives(0, "(0-2)<(0-3)");
    }

    /** "VALUES of all: 'lean', 'height', 'day'; of LEANS also 'wind', 'weight', 'mortar'", empty and full. */
    private static void valuesAtTheirEnds() {
        Check.part("values, empty and full");
        String all = "leans (height=%h and weight=%w and mortar=%m and wind=%b and day=0 and lean=0)*7;";
        String empty = all.replace("%h", "0").replace("%w", "0").replace("%m", "0").replace("%b", "0");
        Check.due(7, () -> Check.tower("plan 9 9;wind 0;" + empty).then(1, 2));
        String full = all.replace("%h", "16").replace("%w", "144").replace("%m", "144").replace("%b", "9");
        Check.due(7, () -> Check.tower("hung 9 9;".repeat(16) + "wind 9;" + full).then(1, 2));
        // The plan is no part of what hangs.
        String one = all.replace("%h", "1").replace("%w", "2").replace("%m", "3").replace("%b", "2");
        Check.due(7, () -> Check.tower("hung 2 3;plan 9 9;" + one).then(1, 2));
        // LEAN as it is ahead of what the rule gives: 99 at last.
        CockTower lean = Check.tower("leans 9-(lean=99)*18;");
        Check.due(99, () -> lean.then(11, 2));
        Check.due(90, () -> lean.then(12, 2));
        Check.due(99, () -> lean.then(13, 2));
        // A WARD's own FAITH at both ends.
        CockTower faith = Check.tower("ward 0;ward 99;gives (faith=0)*3+(faith=99)*4;");
        Check.due(3, () -> faith.ward(0, 3));
        Check.due(4, () -> faith.ward(1, 3));
        // 'fell': 0 at first, 15 at most.
        CockTower fell = Check.tower("ground 16;" + "hung 1 0;".repeat(15) + "ward 0;gives fell;");
        Check.due(0, () -> fell.ward(0, 3));
        fell.days(1);
        Check.due(15, () -> fell.ward(0, 3));
        Check.due(15, () -> fell.count(11));
        fell.days(1);
        Check.due(0, () -> fell.ward(0, 3));
    }

    /** "'doubt' (how many WARDS there are beside it by a STREET whose FAITH is below 10)" */
    private static void doubtBelow10() {
        Check.part("doubt");
        for (int many = 0; many <= 7; many++) {
            StringBuilder text = new StringBuilder("ward 50;");
            for (int w = 1; w <= 7; w++) {
                text.append(w <= many ? "ward 9;" : "ward 10;");
            }
            for (int w = 1; w <= 7; w++) {
                text.append("street 0 ").append(w).append(';');
            }
            int due = many;
            CockTower x = Check.tower(text + "gives doubt*2;");
            Check.due(due, () -> x.ward(0, 2));
            Check.due(2 * due, () -> x.ward(0, 3));
            Check.due(0, () -> x.ward(1, 2));
        }
        Check.due(1, () -> Check.tower("ward 0;ward 0;street 0 1;").ward(0, 2));
        Check.due(0, () -> Check.tower("ward 0;ward 0;").ward(0, 2));
        Check.due(0, () -> Check.tower("ward 0;").ward(0, 2));
        // Two streets away is not beside.
        Check.due(0, () -> Check.tower("ward 50;ward 50;ward 0;street 0 1;street 1 2;").ward(0, 2));
        // A sermon ends it, a street that is cut too.
        CockTower x = Check.tower("ward 50;ward 0;street 0 1;");
        x.preach(1);
        Check.due(0, () -> x.ward(0, 2));
        x.undo();
        Check.due(1, () -> x.ward(0, 2));
        x.street(1, 0, false);
        Check.due(0, () -> x.ward(0, 2));
    }

    /** "LEAN is 0 at first, MONEY 0." */
    private static void atFirst() {
        Check.part("at first");
        CockTower x = Check.tower("hung 9 9;plan 1 1;ward 99;wind 9;");
        for (int what : new int[] {3, 4, 5, 11, 16, 17, 19, 20, 21}) {
            Check.due(0, () -> x.count(what));
        }
    }

    /** "STRENGTH: FAITH of all WARDS, together, by 10, cut down, and MORTAR of all that hang." */
    private static void strengthCutDown() {
        Check.part("strength");
        int[][] faithAndDue = {{0, 0}, {9, 0}, {10, 1}, {19, 1}, {20, 2}, {89, 8}, {90, 9}, {99, 9}};
        for (int[] one : faithAndDue) {
            Check.due(one[1], () -> Check.tower("ward " + one[0] + ";").count(7));
        }
        // Together, not one by one: 9 and 9 and 2 are 20.
        Check.due(2, () -> Check.tower("ward 9;ward 9;ward 2;").count(7));
        Check.due(1, () -> Check.tower("ward 9;ward 9;ward 1;").count(7));
        Check.due(79, () -> Check.tower("ward 99;".repeat(8)).count(7));
        Check.due(144, () -> Check.tower("hung 1 9;".repeat(16)).count(7));
        Check.due(223, () -> Check.tower("ward 99;".repeat(8) + "hung 1 9;".repeat(16)).count(7));
        Check.due(0, () -> Check.tower("plan 1 9;").count(7));
    }

    /** "It is DONE, as soon as GROUND COURSES or more hang, and as long: nothing falls then." */
    private static void done() {
        Check.part("done");
        for (int ground = 2; ground <= 16; ground++) {
            String text = "ground " + ground + ";wind 9;";
            int below = ground - 1;
            CockTower less = Check.tower(text + "hung 9 0;".repeat(below));
            Check.due(below, () -> less.then(1, 5));
            Check.due(0, () -> less.through(60, 1));
            CockTower just = Check.tower(text + "hung 9 0;".repeat(below + 1));
            Check.due(0, () -> just.then(60, 5));
            Check.due(60, () -> just.through(60, 1));
            Check.due(NONE, just::falls);
            if (ground < 16) {
                CockTower more = Check.tower(text + "hung 9 0;".repeat(below + 2));
                Check.due(0, () -> more.then(60, 5));
                Check.due(1, () -> more.count(10));
            }
            // The last course comes today, and all that is too heavy stays.
            CockTower soon = Check.tower(text + "hung 9 0;".repeat(below) + "plan 9 0;cost 1;");
            soon.give(1);
            Check.due(below + 1, () -> soon.then(1, 0));
            soon.days(1);
            Check.due(1, () -> soon.count(10));
            soon.undo();
            Check.due(0, () -> soon.count(10));
        }
    }

    /** "LEAN is more by what LEANS gives .., kept to -9 to 9; it is 0 at least, 99 at most." */
    private static void leanKept() {
        Check.part("lean kept");
        int[][] gaveAndDue = {{0, 0}, {1, 1}, {8, 8}, {9, 9}, {10, 9}, {11, 9}, {9999, 9}};
        for (int[] one : gaveAndDue) {
            Check.due(one[1], () -> Check.tower("leans " + one[0] + ";").then(1, 2));
            // From 45 down by as much.
            CockTower down = Check.tower("leans (day<5)*9-(4<day)*" + one[0] + ";");
            down.days(5);
            Check.due(45 - one[1], () -> down.then(1, 2));
        }
        Check.due(9, () -> Check.tower("leans " + GREATEST + ";").then(1, 2));
        Check.due(0, () -> Check.tower("leans " + LEAST + ";").then(1, 2));
        for (int least = 0; least <= 9; least++) {
            // From so much down by 9, by just as much, by one less.
            int from = least;
            CockTower x = Check.tower("leans (day=0)*" + least + "-(day=1)*9;");
            Check.due(from, () -> x.then(1, 2));
            Check.due(0, () -> x.then(2, 2));
            CockTower y = Check.tower("leans (day=0)*" + least + "-(day=1)*" + Math.max(0, least - 1) + ";");
            Check.due(from == 0 ? 0 : 1, () -> y.then(2, 2));
        }
        for (int more = 0; more <= 9; more++) {
            // From 95 up.
            int due = Math.min(99, 95 + more);
            CockTower x = Check.tower("leans (day<10)*9+(day=10)*5+(day=11)*" + more + ";");
            Check.due(95, () -> x.then(11, 2));
            Check.due(due, () -> x.then(12, 2));
        }
        CockTower top = Check.tower("leans (day<11)*9+(day=11)*9-(day=12);");
        Check.due(99, () -> top.then(12, 2));
        Check.due(98, () -> top.then(13, 2));
    }

    /** "(without it WIND of the DAY less a fourth, cut down, of MORTAR of all that hang), kept to -9 to 9" */
    private static void leanWithoutARule() {
        Check.part("lean without a rule");
        for (int mortar = 0; mortar <= 81; mortar++) {
            StringBuilder text = new StringBuilder("ground 2;wind 9 9 9 9;");
            // Nine courses, so that it is done, with so much mortar in all behind four days of 9 or less.
            int left = mortar;
            for (int c = 0; c < 9; c++) {
                int own = Math.min(9, left);
                left -= own;
                text.append("hung 1 ").append(own).append(';');
            }
            int fourth = mortar / 4;
            int more = Math.max(-9, 9 - fourth);
            CockTower x = Check.tower(text.toString());
            Check.due(Math.max(0, Math.min(99, more)), () -> x.then(1, 2));
        }
        // It leans by 45 ahead of the mortar: 0 less 36, 40 and 81 by 4 is -9, -10 and -20.
        int[][] mortarAndDue = {{32, 37}, {35, 37}, {36, 36}, {39, 36}, {40, 36}, {72, 36}};
        for (int[] one : mortarAndDue) {
            CockTower x = Check.tower("ground 2;wind 9 9 9 9 9 0;" + "hung 1 0;".repeat(8));
            x.days(5);
            Check.due(45, () -> x.count(5));
            for (int i = 0; i < one[0]; i++) {
                x.mortar(i / 9);
            }
            Check.due(one[1], () -> x.then(1, 2));
        }
    }

    /** "what GIVES, by what is so then, gives, kept to 0 to 20 (without it FAITH by 20, cut down)" */
    private static void giftsKept() {
        Check.part("gifts kept");
        int[][] gaveAndDue = {{0, 0}, {1, 1}, {19, 19}, {20, 20}, {21, 20}, {9999, 20}};
        for (int[] one : gaveAndDue) {
            CockTower x = Check.tower("ward 50;gives " + one[0] + ";");
            Check.due(one[1], () -> x.ward(0, 3));
            Check.due(one[1], () -> x.wardThen(0, 1, 1));
            Check.due(one[1], () -> x.then(1, 3));
            Check.due(0, () -> Check.tower("ward 50;gives 0-" + one[0] + ";").wardThen(0, 1, 1));
        }
        Check.due(20, () -> Check.tower("ward 50;gives " + GREATEST + ";").ward(0, 3));
        Check.due(0, () -> Check.tower("ward 50;gives " + LEAST + ";").ward(0, 3));
        for (int faith = 0; faith <= 99; faith++) {
            int due = faith / 20;
            String text = "ward " + faith + ";";
            Check.due(due, () -> Check.tower(text).ward(0, 3));
            Check.due(due, () -> Check.tower(text).then(1, 3));
        }
        int[][] faithAndDue = {{19, 0}, {20, 1}, {39, 1}, {40, 2}, {79, 3}, {80, 4}, {99, 4}};
        for (int[] one : faithAndDue) {
            Check.due(one[1], () -> Check.tower("ward " + one[0] + ";").ward(0, 3));
        }
    }

    /** "999 at most (what is more is given, and lost)" */
    private static void moneyAtMost999() {
        Check.part("money at most 999");
        for (int more = 0; more <= 3; more++) {
            // 49 days of 20 are 980; then 18, 19, 20 or 20 come.
            int last = 18 + more;
            int due = Math.min(999, 980 + Math.min(20, last));
            CockTower x = Check.tower("ward 50;gives (day<49)*20+(day=49)*" + last + ";");
            Check.due(980, () -> x.then(49, 3));
            Check.due(due, () -> x.then(50, 3));
            Check.due(due, () -> x.then(60, 3));
            Check.due(980 + Math.min(20, last), () -> x.wardThen(0, 60, 1));
        }
        // It is cut to 999 for each ward, ahead of the cost.
        CockTower x = Check.tower("ward 50;".repeat(8) + "gives 20;cost 99;plan 1 0;wind 0;leans 0;believes 0;ground 2;hung 1 0;");
        for (int i = 0; i < 10; i++) {
            x.give(99);
        }
        Check.due(990, () -> x.count(4));
        Check.due(900, () -> x.then(1, 3));
        Check.due(2, () -> x.then(1, 0));
        Check.due(20, () -> x.wardThen(7, 1, 1));
        Check.due(999, () -> x.then(2, 3));
    }

    /** "if MONEY is COST or more, and there is a COURSE in the PLAN, the first of it hangs under the others" */
    private static void costOrMore() {
        Check.part("cost or more");
        for (int cost : new int[] {1, 2, 10, 98, 99}) {
            for (int off = -1; off <= 1; off++) {
                int money = cost + off;
                if (money >= 1 && money <= 99) {
                    CockTower x = Check.tower("plan 3 9;plan 2 0;hung 1 9;wind 0;cost " + cost + ";");
                    x.give(money);
                    int hang = off >= 0 ? 2 : 1;
                    Check.due(hang, () -> x.then(1, 0));
                    Check.due(3 - hang, () -> x.then(1, 4));
                    Check.due(off >= 0 ? money - cost : money, () -> x.then(1, 3));
                    Check.due(off >= 0 ? 3 : 1, () -> x.then(1, 6));
                }
            }
        }
        // Without a plan the money stays.
        CockTower none = Check.tower("hung 1 9;wind 0;cost 1;");
        none.give(99);
        Check.due(99, () -> none.then(60, 3));
        Check.due(1, () -> none.then(60, 0));
        // Sixteen in the plan, one a day, though there is money for all.
        CockTower all = Check.tower("plan 1 9;".repeat(16) + "ground 16;cost 1;wind 0;");
        all.give(99);
        for (int day = 0; day <= 18; day++) {
            int behind = day;
            Check.due(Math.min(16, behind), () -> all.then(behind, 0));
            Check.due(99 - Math.min(16, behind), () -> all.then(behind, 3));
        }
    }

    /** "a COURSE hangs, and WEIGHT and LEAN by 5, cut down, are together more than STRENGTH, the lowest COURSE falls" */
    private static void moreThanStrength() {
        Check.part("more than strength");
        for (int lean = 0; lean <= 99; lean++) {
            int needed = 9 + lean / 5;
            for (int off = -1; off <= 1; off++) {
                StringBuilder text = new StringBuilder("plan 9 0;cost 1;gives 0;believes 0;leans (day<");
                text.append(lean / 9).append(")*9+(day=").append(lean / 9).append(")*").append(lean % 9).append(';');
                int faith = 10 * (needed + off);
                // All the faith that is short of ten more does not help.
                text.append("ward 9;");
                while (faith > 0) {
                    text.append("ward ").append(Math.min(90, faith)).append(';');
                    faith -= 90;
                }
                CockTower x = Check.tower(text.toString());
                x.days(lean / 9 + 1);
                x.give(1);
                int leans = lean;
                Check.due(leans, () -> x.count(5));
                Check.due(needed + off, () -> x.count(7));
                Check.due(off < 0 ? 1 : 0, () -> x.then(1, 5));
                Check.due(off < 0 ? 0 : 1, () -> x.then(1, 0));
                Check.due(off < 0 ? 0 : 1, () -> x.count(9));
            }
        }
    }

    /** "the lowest COURSE falls (it is gone, with its WEIGHT and MORTAR; not back to the PLAN)" */
    private static void fallsFromBelow() {
        Check.part("falls from below");
        // 4 is held: of 1, 2, 3, 4 the lowest two go.
        CockTower x = Check.tower("hung 1 0;hung 2 0;hung 3 0;hung 4 0;plan 9 9;plan 8 8;ward 40;wind 0;cost 99;believes 0;");
        x.days(1);
        Check.due(2, () -> x.count(0));
        Check.due(2, () -> x.count(1));
        Check.due(3, () -> x.count(6));
        Check.due(2, () -> x.count(11));
        int[][] due = {{1, 0, 1}, {2, 0, 1}, {9, 9, 0}, {8, 8, 0}};
        for (int c = 0; c < 4; c++) {
            for (int what = 0; what < 3; what++) {
                int course = c;
                int w = what;
                Check.due(due[course][w], () -> x.course(course, w));
            }
        }
        Check.due(Check.NO_ELEMENT, () -> x.course(4, 0));
        // The course that came today falls today, and is paid for.
        CockTower today = Check.tower("hung 4 0;plan 1 0;ward 40;wind 0;cost 7;gives 7;believes 0;");
        Check.due(1, () -> today.then(1, 5));
        Check.due(0, () -> today.then(1, 4));
        Check.due(0, () -> today.then(1, 3));
        Check.due(4, () -> today.then(1, 6));
        // Mortar that falls holds no more: 22 on 21, and 13 on 13 without the lowest; 23 on 21, 14 on 13, 5 on 4.
        Check.due(1, () -> Check.tower("hung 4 0;hung 9 9;hung 9 8;ward 49;wind 0;").then(1, 5));
        Check.due(3, () -> Check.tower("hung 5 0;hung 9 9;hung 9 8;ward 49;wind 0;").then(1, 5));
        // It may stand again when one fell: 3 and 9 with 5 of mortar on 4: the 9 alone was too much.
        Check.due(1, () -> Check.tower("hung 3 0;hung 9 5;ward 40;wind 0;").then(1, 5));
        // What fell on this day is told until the next one.
        CockTower once = Check.tower("hung 5 0;ward 40;wind 0;");
        once.days(1);
        Check.due(1, () -> once.count(11));
        once.give(1);
        once.preach(0);
        Check.due(1, () -> once.count(11));
        once.days(2);
        Check.due(0, () -> once.count(11));
    }

    private static void nothingHangs() {
        Check.part("nothing hangs");
        CockTower x = Check.tower("wind 9;");
        x.days(20);
        Check.due(-19, () -> x.count(8));
        Check.due(0, () -> x.count(11));
        Check.due(NONE, x::falls);
        Check.due(0, () -> x.then(60, 5));
        Check.due(60, () -> x.through(60, 3));
        Check.due(99, () -> x.through(1, 0));
    }

    /** "what BELIEVES .. gives .., kept to -9 to 9; FAITH is 0 at least, 99 at most." */
    private static void beliefKept() {
        Check.part("belief kept");
        int[][] gaveAndDue = {{0, 0}, {1, 1}, {8, 8}, {9, 9}, {10, 9}, {9999, 9}};
        for (int[] one : gaveAndDue) {
            Check.due(50 + one[1], () -> Check.tower("ward 50;believes " + one[0] + ";").wardThen(0, 1, 0));
            Check.due(50 - one[1], () -> Check.tower("ward 50;believes 0-" + one[0] + ";").wardThen(0, 1, 0));
        }
        Check.due(59, () -> Check.tower("ward 50;believes " + GREATEST + ";").wardThen(0, 1, 0));
        Check.due(41, () -> Check.tower("ward 50;believes " + LEAST + ";").wardThen(0, 1, 0));
        for (int faith = 0; faith <= 9; faith++) {
            String low = "ward " + faith + ";believes 0-5;";
            int due = Math.max(0, faith - 5);
            Check.due(due, () -> Check.tower(low).wardThen(0, 1, 0));
            String high = "ward " + (99 - faith) + ";believes 5;";
            Check.due(99 - due, () -> Check.tower(high).wardThen(0, 1, 0));
        }
        Check.due(99, () -> Check.tower("ward 98;").wardThen(0, 1, 0));
        Check.due(99, () -> Check.tower("ward 99;").wardThen(0, 1, 0));
        Check.due(0, () -> Check.tower("ward 0;ward 0;ward 0;street 0 1;street 0 2;").wardThen(0, 1, 0));
    }

    /** "(without it 1 less 'doubt' less 3 for each that fell)" */
    private static void beliefWithoutARule() {
        Check.part("belief without a rule");
        for (int doubt = 0; doubt <= 7; doubt++) {
            for (int fell = 0; fell <= 14; fell++) {
                StringBuilder text = new StringBuilder("ground 16;leans 0;ward 90;");
                text.append("ward 0;".repeat(doubt));
                for (int w = 1; w <= doubt; w++) {
                    text.append("street 0 ").append(w).append(';');
                }
                text.append("hung 9 0;".repeat(fell + 1));
                int due = 90 + Math.max(-9, 1 - doubt - 3 * fell);
                int fallen = fell;
                CockTower x = Check.tower(text.toString());
                Check.due(fallen, () -> x.then(1, 5));
                Check.due(due, () -> x.wardThen(0, 1, 0));
            }
        }
    }

    /** "by what is so behind all that fell and ahead of all of them ('fell': on this DAY)" */
    private static void aheadOfAllOfThem() {
        Check.part("ahead of all of them");
        // Each doubts because of the other, and both would come to 10 today.
        CockTower x = Check.tower("ward 9;ward 9;street 0 1;believes 1-doubt*0+doubt;");
        Check.due(11, () -> x.wardThen(0, 1, 0));
        Check.due(11, () -> x.wardThen(1, 1, 0));
        Check.due(12, () -> x.wardThen(0, 2, 0));
        // Down below 10 today: doubt comes tomorrow, for wards ahead and behind.
        CockTower y = Check.tower("ward 50;ward 10;ward 50;street 0 1;street 1 2;believes 0-(faith<20)-doubt*5;");
        Check.due(50, () -> y.wardThen(0, 1, 0));
        Check.due(50, () -> y.wardThen(2, 1, 0));
        Check.due(45, () -> y.wardThen(0, 2, 0));
        Check.due(45, () -> y.wardThen(2, 2, 0));
        // Gifts see what fell on the day before, belief what fell today.
        CockTower z = Check.tower("ward 40;hung 5 0;wind 0;gives fell*7;believes fell*4;");
        Check.due(0, () -> z.wardThen(0, 1, 1));
        Check.due(44, () -> z.wardThen(0, 1, 0));
        Check.due(7, () -> z.wardThen(0, 2, 1));
        Check.due(44, () -> z.wardThen(0, 2, 0));
        Check.due(7, () -> z.wardThen(0, 60, 1));
    }

    /** "DAYS go by (1 to 20)"; promise 8 */
    private static void daysFrom1To20() {
        Check.part("days");
        CockTower x = new CockTower();
        int refused = 0;
        for (int many : new int[] {0, -1, 21, 22, 9999, 10000, MIN, MAX}) {
            refused++;
            int due = refused;
            Check.due(NONE, () -> x.days(many));
            Check.due(due, () -> x.count(20));
            Check.due(0, () -> x.count(3));
        }
        Check.due(0, () -> x.count(16));
        int day = 0;
        for (int many = 1; many <= 20; many++) {
            day += many;
            int d = many;
            Check.due(day, () -> x.days(d));
        }
        Check.due(20, () -> x.count(16));
    }

    /** "NONE (STATUS 1): .. it would be above 9999." */
    private static void daysUpTo9999() {
        Check.part("days up to 9999");
        CockTower x = new CockTower();
        for (int i = 0; i < 499; i++) {
            x.days(20);
        }
        Check.due(NONE, () -> x.days(20));
        Check.due(9999, () -> x.days(19));
        Check.due(NONE, () -> x.days(1));
        Check.due(39, x::undo);
        Check.due(9998, () -> x.days(18));
        Check.due(NONE, () -> x.days(2));
        Check.due(9999, () -> x.days(1));
        Check.due(3, () -> x.count(20));
        CockTower y = new CockTower();
        y.days(19);
        for (int i = 0; i < 498; i++) {
            y.days(20);
        }
        Check.due(9999, () -> y.days(20));
        Check.due(NONE, () -> y.days(MAX));
        Check.due(NONE, () -> y.days(1));
        Check.due(9999, () -> y.count(3));
        // What is asked about days to come goes on behind it, with the wind and the day as they are then.
        CockTower z = new CockTower();
        Check.tell(z, "leans (day<10)*0+(day=9999+59)*4+(day=9999+60)*8;");
        for (int i = 0; i < 499; i++) {
            z.days(20);
        }
        z.days(19);
        Check.due(0, () -> z.then(59, 2));
        Check.due(4, () -> z.then(60, 2));
        CockTower wind = new CockTower();
        Check.tell(wind, "wind 1 2 3 4 5 6 7;leans (day<9990)*0+(9998<day)*wind;");
        for (int i = 0; i < 499; i++) {
            wind.days(20);
        }
        wind.days(19);
        // 9999 is 3 by 7, and the fourth wind is 4.
        Check.due(4, () -> wind.then(1, 2));
        Check.due(9, () -> wind.then(2, 2));
    }

    /** "a GIFT of 1 to 99 comes to MONEY (999 at most)"; promise 9 */
    private static void giftFrom1To99() {
        Check.part("give");
        CockTower x = new CockTower();
        for (int gift : new int[] {0, -1, 100, 101, -99, MIN, MAX}) {
            Check.due(NONE, () -> x.give(gift));
            Check.due(0, () -> x.count(4));
        }
        Check.due(7, () -> x.count(20));
        for (int gift = 1; gift <= 99; gift++) {
            CockTower y = new CockTower();
            int one = gift;
            Check.due(one, () -> y.give(one));
            Check.due(one, () -> y.count(4));
        }
        for (int last = 8; last <= 12; last++) {
            CockTower y = new CockTower();
            for (int i = 0; i < 10; i++) {
                y.give(99);
            }
            int gift = last;
            Check.due(Math.min(999, 990 + gift), () -> y.give(gift));
            Check.due(Math.min(999, 991 + gift), () -> y.give(1));
            Check.due(12, () -> y.count(16));
            y.undo();
            Check.due(Math.min(999, 990 + gift), () -> y.count(4));
            y.undo();
            Check.due(990, () -> y.count(4));
        }
    }

    /** "FAITH is 10 more (99 at most)"; "NONE (STATUS 1): it is 99." */
    private static void preachUpTo99() {
        Check.part("preach");
        for (int faith = 0; faith <= 99; faith++) {
            CockTower x = Check.tower("ward 7;ward " + faith + ";");
            int was = faith;
            int due = faith == 99 ? NONE : Math.min(99, faith + 10);
            Check.due(due, () -> x.preach(1));
            Check.due(was == 99 ? 99 : due, () -> x.ward(1, 0));
            Check.due(was == 99 ? 1 : 0, () -> x.count(20));
            Check.due(was == 99 ? NONE : 0, x::undo);
            Check.due(was, () -> x.ward(1, 0));
            Check.due(7, () -> x.ward(0, 0));
        }
        for (int wards = 0; wards <= 8; wards++) {
            CockTower x = Check.tower("ward 99;".repeat(wards));
            for (int ward : new int[] {-1, wards, wards + 1, 8, MIN, MAX}) {
                Check.due(Check.NO_ELEMENT, () -> x.preach(ward));
            }
            Check.due(0, () -> x.count(20));
            if (wards > 0) {
                int last = wards - 1;
                Check.due(NONE, () -> x.preach(last));
                Check.due(NONE, () -> x.preach(0));
                Check.due(2, () -> x.count(20));
            }
        }
    }

    /** "a COURSE that hangs has 1 more MORTAR (9 at most)"; "NoSuchElementException (ahead): no such COURSE hangs." */
    private static void mortarUpTo9() {
        Check.part("mortar");
        for (int mortar = 0; mortar <= 9; mortar++) {
            CockTower x = Check.tower("hung 1 3;hung 1 " + mortar + ";plan 1 9;");
            int was = mortar;
            Check.due(was == 9 ? NONE : was + 1, () -> x.mortar(1));
            Check.due(was == 9 ? 9 : was + 1, () -> x.course(1, 1));
            Check.due(was == 9 ? 1 : 0, () -> x.count(20));
            Check.due(was == 9 ? NONE : 0, x::undo);
            Check.due(was, () -> x.course(1, 1));
            Check.due(3, () -> x.course(0, 1));
            // A course of the plan does not hang, even if it has 9.
            for (int course : new int[] {-1, 2, 3, 16, MIN, MAX}) {
                Check.due(Check.NO_ELEMENT, () -> x.mortar(course));
            }
            Check.due(was == 9 ? 1 : 0, () -> x.count(20));
        }
        CockTower full = Check.tower("hung 1 0;".repeat(16));
        Check.due(1, () -> full.mortar(15));
        Check.due(Check.NO_ELEMENT, () -> full.mortar(16));
        Check.due(Check.NO_ELEMENT, () -> Check.tower("plan 1 0;").mortar(0));
        Check.due(Check.NO_ELEMENT, () -> new CockTower().mortar(0));
    }

    /** "PROPPED: LEAN as it was. NONE (STATUS 1): it is 0." */
    private static void propFrom1() {
        Check.part("prop");
        for (int lean = 0; lean <= 99; lean++) {
            CockTower x = Check.tower("leans (day<" + lean / 9 + ")*9+(day=" + lean / 9 + ")*" + lean % 9 + ";");
            x.days(lean / 9 + 1);
            int was = lean;
            Check.due(was == 0 ? NONE : was, x::prop);
            Check.due(0, () -> x.count(5));
            Check.due(was == 0 ? 1 : 0, () -> x.count(20));
            Check.due(NONE, x::prop);
            Check.due(was == 0 ? 1 : 2, () -> x.count(16));
            x.undo();
            Check.due(was == 0 ? 0 : was, () -> x.count(5));
        }
    }

    /** "A STREET is opened (true), or cut: true. False (STATUS 1): it is so already, both are one." */
    private static void streetsOfAllWards() {
        Check.part("street");
        CockTower x = Check.tower("ward 1;".repeat(8));
        int refused = 0;
        for (int a = 0; a < 8; a++) {
            for (int b = 0; b <= a; b++) {
                int one = a;
                int two = b;
                boolean same = a == b;
                Check.due(false, () -> x.street(one, two, false));
                Check.due(!same, () -> x.street(one, two, true));
                Check.due(false, () -> x.street(two, one, true));
                refused += same ? 3 : 2;
                int due = refused;
                Check.due(due, () -> x.count(20));
                if (!same && (a + b) % 2 == 0) {
                    Check.due(true, () -> x.street(two, one, false));
                }
            }
        }
        for (int w = 0; w < 8; w++) {
            int ward = w;
            Check.due(w % 2 == 0 ? 0xaa : 0x55, () -> x.ward(ward, 1));
        }
        CockTower y = Check.tower("ward 1;ward 1;ward 1;");
        for (int wrong : new int[] {-1, 3, 8, 32, MIN, MAX}) {
            for (boolean is : new boolean[] {true, false}) {
                Check.due(Check.NO_ELEMENT, () -> y.street(wrong, 0, is));
                Check.due(Check.NO_ELEMENT, () -> y.street(2, wrong, is));
                Check.due(Check.NO_ELEMENT, () -> y.street(wrong, wrong, is));
            }
        }
        Check.due(0, () -> y.count(20));
        Check.due(0, () -> y.count(16));
        Check.due(Check.NO_ELEMENT, () -> new CockTower().street(0, 0, true));
    }

    /** A tower where each act can be done. */
    private static CockTower busy() {
        CockTower x = Check.tower("hung 2 3;hung 4 0;plan 5 9;plan 1 0;ward 40;ward 9;ward 77;street 0 1;wind 7;cost 5;ground 4;");
        x.days(1);
        return x;
    }

    private static void act(CockTower x, int kind) {
        switch (kind) {
            case 0: Check.due(true, () -> x.days(20) > 0); break;
            case 1: Check.due(true, () -> x.give(33) > 0); break;
            case 2: Check.due(true, () -> x.preach(1) > 0); break;
            case 3: Check.due(true, () -> x.mortar(1) > 0); break;
            case 4: Check.due(true, () -> x.prop() > 0); break;
            case 5: Check.due(true, () -> x.street(2, 1, true)); break;
            default: Check.due(true, () -> x.street(1, 0, false));
        }
    }

    /** "They are UNDONE, the last one first." */
    private static void undoEachAct() {
        for (int kind = 0; kind < 7; kind++) {
            for (int other = 0; other < 7; other++) {
                Check.part("undo of act " + kind + " and " + other);
                CockTower x = busy();
                String first = Check.told(x);
                act(x, kind);
                String second = Check.told(x);
                if (other == kind || other == 4 && kind == 0) {
                    Check.due(1, x::undo);
                } else {
                    act(x, other);
                    Check.due(2, x::undo);
                    Check.due(second, () -> Check.told(x));
                    Check.due(1, x::undo);
                }
                Check.due(first, () -> Check.told(x));
                Check.due(0, x::undo);
                Check.due(NONE, x::undo);
                Check.due(NONE, x::undo);
                Check.due(0, () -> x.count(16));
                Check.due(0, () -> x.count(20));
            }
        }
    }

    /** Courses that fell hang again, each in its place, and the plan stands behind them. */
    private static void undoFalls() {
        Check.part("undo of a fall");
        CockTower x = Check.tower("hung 1 0;hung 2 1;hung 3 2;plan 4 3;plan 5 4;ward 10;wind 0;cost 99;believes 0;");
        String was = Check.told(x);
        x.days(1);
        Check.due(1, () -> x.count(0));
        Check.due(2, () -> x.count(11));
        Check.due(4, () -> x.course(1, 0));
        Check.due(0, x::undo);
        Check.due(was, () -> Check.told(x));
        for (int c = 0; c < 5; c++) {
            int course = c;
            Check.due(course + 1, () -> x.course(course, 0));
            Check.due(course, () -> x.course(course, 1));
            Check.due(course < 3 ? 1 : 0, () -> x.course(course, 2));
        }
        Check.due(0, () -> x.count(11));
        // How many fell on the day before is undone, too.
        x.days(1);
        String fallen = Check.told(x);
        x.days(1);
        Check.due(0, () -> x.count(11));
        Check.due(1, x::undo);
        Check.due(2, () -> x.count(11));
        Check.due(fallen, () -> Check.told(x));
        // All sixteen: fifteen fall but the first one.
        StringBuilder text = new StringBuilder("ground 16;wind 0;cost 99;ward 10;hung 1 0;");
        for (int c = 1; c < 15; c++) {
            text.append("hung ").append(c % 9 + 1).append(' ').append(c % 5 % (c % 9 + 1)).append(';');
        }
        CockTower full = Check.tower(text + "plan 7 6;");
        String all = Check.told(full);
        full.days(20);
        Check.due(7, () -> full.course(full.count(0), 0));
        full.undo();
        Check.due(all, () -> Check.told(full));
    }

    /** "ACTS (at most 40 are kept, the latest ones)" */
    private static void atMost40Kept() {
        for (int many : new int[] {1, 39, 40, 41, 42, 79, 80, 81, 120}) {
            Check.part("40 of " + many + " acts");
            CockTower x = new CockTower();
            for (int i = 1; i <= many; i++) {
                int kept = Math.min(40, i);
                x.give(1);
                Check.due(kept, () -> x.count(16));
            }
            int kept = Math.min(40, many);
            for (int left = kept - 1; left >= 0; left--) {
                int due = left;
                Check.due(due, x::undo);
                Check.due(many - kept + due, () -> x.count(4));
            }
            Check.due(NONE, x::undo);
            Check.due(many - kept, () -> x.count(4));
            // There is room for 40 again.
            for (int i = 1; i <= 41; i++) {
                x.give(2);
            }
            Check.due(40, () -> x.count(16));
        }
        // Days are one act, however many.
        CockTower days = new CockTower();
        days.days(20);
        Check.due(1, () -> days.count(16));
        Check.due(0, days::undo);
        Check.due(0, () -> days.count(3));
    }

    private static void refusedActsAreNotKept() {
        Check.part("refused acts are not kept");
        CockTower x = Check.tower("ward 99;ward 0;hung 1 9;ground 2;hung 1 0;wind 0;");
        for (int i = 0; i < 40; i++) {
            x.give(1);
        }
        x.give(0);
        x.days(21);
        x.preach(0);
        x.mortar(0);
        x.prop();
        x.street(0, 1, false);
        Check.due(6, () -> x.count(20));
        Check.due(40, () -> x.count(16));
        for (int left = 39; left >= 0; left--) {
            int due = left;
            Check.due(due, x::undo);
            Check.due(due, () -> x.count(4));
        }
        // Undone with none left is no act that is refused.
        Check.due(NONE, x::undo);
        Check.due(6, () -> x.count(20));
    }
}
