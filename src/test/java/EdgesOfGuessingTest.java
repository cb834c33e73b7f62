/** Of "==== 4" and promises 2, 3, 27 to 33, 37 and 38: each bound of what is seen, guessed and kept, on both sides. */
public final class EdgesOfGuessingTest {
    private static final int NONE = CockTower.NONE;
    private static final int MIN = Integer.MIN_VALUE;
    private static final int MAX = Integer.MAX_VALUE;
    private static final int[] SEEDS = {0, 1, -1, 7, 12345, -12345, MIN, MAX, MIN + 1, MAX - 1, 1 << 16, 1 << 30, 1103515245};

    public static void main(String[] args) {
        seeBounds();
        seeAtMost8();
        seenBehind0To20();
        heavyEmptyAndFull();
        heavyOtherWeights();
        heavyFirst();
        lookWithinFiveDays();
        lookUnlike();
        galesBounds();
        galesLikely();
        gameBounds();
        gameFaithNotBelow0();
        gameOtherChoice();
        yearsBounds();
        yearsFaith();
        yearsMoney();
        yearsMortar();
        feedUpTo700();
        townOfSoManyBytes();
        statusStays();
        imageInPlaceOfAnother();
        imageOfAll();
        imageOfSeen();
        Check.end("EdgesOfGuessingTest");
    }

    /** "NONE (STATUS 2): .. not 0 to 20, not 0 to 99." */
    private static void seeBounds() {
        Check.part("see");
        int refused = 0;
        CockTower x = new CockTower();
        for (int days : new int[] {MIN, -1, 21, 22, 60, MAX}) {
            for (int lean : new int[] {MIN, -1, 0, 99, 100, MAX}) {
                refused++;
                int due = refused;
                Check.due(NONE, () -> x.see(days, lean));
                Check.due(due, () -> x.count(21));
            }
        }
        for (int days : new int[] {0, 1, 20}) {
            for (int lean : new int[] {MIN, -1, 100, 101, MAX}) {
                refused++;
                int due = refused;
                Check.due(NONE, () -> x.see(days, lean));
                Check.due(due, () -> x.count(21));
            }
        }
        Check.due(0, () -> x.count(17));
        Check.due(0, () -> x.count(20));
        int many = 0;
        for (int days : new int[] {0, 20}) {
            for (int lean : new int[] {0, 99}) {
                many++;
                int due = many;
                Check.due(due, () -> x.see(days, lean));
            }
        }
        int due = refused;
        Check.due(due, () -> x.count(21));
    }

    /** "SEEN (at most 8)"; "All that is SEEN is forgotten." */
    private static void seeAtMost8() {
        Check.part("see 8");
        CockTower x = Check.tower("hung 1 0;ground 2;hung 1 0;leans 1;");
        for (int again = 1; again <= 3; again++) {
            for (int i = 1; i <= 8; i++) {
                int due = i;
                Check.due(due, () -> x.see(due, due));
                Check.due(due, () -> x.count(17));
            }
            int refused = 2 * again - 1;
            Check.due(NONE, () -> x.see(9, 1));
            Check.due(refused, () -> x.count(21));
            Check.due(NONE, () -> x.see(21, 100));
            Check.due(refused + 1, () -> x.count(21));
            Check.due(8, () -> x.count(17));
            // The ninth, which would not be so, is not among them.
            Check.due(1, () -> x.heavy(2));
            Check.due(16, () -> x.heavy(0));
            x.forget();
            Check.due(0, () -> x.count(17));
        }
        // The eighth is looked at as the first one is.
        for (int wrong = 1; wrong <= 8; wrong++) {
            for (int i = 1; i <= 8; i++) {
                x.see(i, i == wrong ? 50 : i);
            }
            Check.due(0, () -> x.heavy(2));
            Check.due(0, () -> x.heavy(0));
            x.forget();
        }
        Check.due(1, () -> x.heavy(2));
        x.forget();
        Check.due(0, () -> x.count(17));
    }

    /** "what LEAN was (0 to 99) behind so many DAYS (0 to 20)" */
    private static void seenBehind0To20() {
        for (int days = 0; days <= 20; days++) {
            Check.part("seen behind " + days);
            // It leans by its weight on that very day alone.
            int d = days;
            CockTower x = Check.tower("hung 2 0;hung 3 0;ground 2;leans (day=" + (days - 1 < 0 ? 99 : days - 1) + ")*weight;");
            x.see(d, d == 0 ? 0 : 5);
            Check.due(1, () -> x.heavy(2));
            x.forget();
            x.see(d, 6);
            Check.due(0, () -> x.heavy(2));
            Check.due(d == 0 ? 0 : 2, () -> x.heavy(0));
            Check.due(d == 0 ? NONE : 3, () -> x.heavy(1));
            if (d > 0) {
                x.see(d - 1, 0);
                Check.due(2, () -> x.heavy(0));
                x.see(d - 1, 6);
                Check.due(0, () -> x.heavy(0));
            }
        }
        Check.part("seen at both ends of LEAN");
        CockTower x = Check.tower("hung 2 0;ground 2;hung 1 0;leans 9;");
        x.see(0, 0);
        x.see(11, 99);
        x.see(20, 99);
        Check.due(1, () -> x.heavy(2));
        x.see(10, 90);
        Check.due(1, () -> x.heavy(2));
        x.see(10, 91);
        Check.due(0, () -> x.heavy(2));
    }

    /** "HEAVY: COURSES that hang and WEIGHTS (1 to 9, another one than it has)": how many without anything SEEN. */
    private static void heavyEmptyAndFull() {
        for (int hung = 0; hung <= 16; hung++) {
            Check.part("heavy, " + hung + " hang");
            int due = 8 * hung;
            CockTower x = Check.tower("hung 9 0;".repeat(hung) + "plan 3 0;".repeat(16 - hung));
            Check.due(due, () -> x.heavy(0));
            Check.due(due == 0 ? NONE : 1, () -> x.heavy(1));
            Check.due(1, () -> x.heavy(2));
        }
    }

    private static void heavyOtherWeights() {
        for (int has = 1; has <= 9; has++) {
            for (int seen = 1; seen <= 9; seen++) {
                Check.part("heavy, has " + has + ", seen " + seen);
                CockTower x = Check.tower("hung " + has + " 9;leans weight;");
                x.see(1, seen);
                boolean same = has == seen;
                int due = seen;
                Check.due(same ? 0 : 1, () -> x.heavy(0));
                Check.due(same ? NONE : due, () -> x.heavy(1));
                Check.due(same ? 1 : 0, () -> x.heavy(2));
                Check.due(same ? NONE : 1, () -> x.look(0));
                Check.due(same ? 0 : 1, () -> x.look(1));
            }
        }
        // 0 and 10 are no weights.
        for (int seen : new int[] {0, 10}) {
            CockTower x = Check.tower("hung 5 9;leans weight-(weight=10)*9;");
            x.see(1, seen);
            Check.due(0, () -> x.heavy(0));
        }
    }

    /** "the first (10 by the COURSE, and WEIGHT)" */
    private static void heavyFirst() {
        Check.part("heavy, the first");
        // Fifteen weigh 9 and the last 8: 144 in all can be by the last one alone.
        CockTower last = Check.tower("ground 2;" + "hung 9 0;".repeat(15) + "hung 8 0;leans weight-143;");
        last.see(1, 1);
        Check.due(1, () -> last.heavy(0));
        Check.due(159, () -> last.heavy(1));
        Check.due(0, () -> last.heavy(2));
        Check.due(1, () -> Check.tower("hung 2 0;").heavy(1));
        Check.due(2, () -> Check.tower("hung 1 0;").heavy(1));
        // A course of the plan is none that hangs.
        CockTower plan = Check.tower("hung 1 9;plan 1 9;cost 1;gives 1;ward 1;ground 2;leans weight;");
        plan.see(1, 1);
        plan.see(2, 6);
        Check.due(0, () -> plan.heavy(0));
        Check.due(NONE, () -> plan.heavy(1));
    }

    /** "LOOK NEXT: on which of the next 5 DAYS LEAN at its end is by these most unlike (of like ones the first)" */
    private static void lookWithinFiveDays() {
        for (int day = 0; day <= 6; day++) {
            Check.part("look, unlike from day " + day);
            CockTower x = Check.tower("hung 5 9;leans (day=" + day + ")*weight;");
            int due = day < 5 ? day + 1 : 1;
            Check.due(due, () -> x.look(0));
            Check.due(day < 5 ? 8 : 1, () -> x.look(1));
        }
    }

    /** "how many unlike numbers; none without any" */
    private static void lookUnlike() {
        Check.part("look, how many");
        // On day 1 there are two, on day 3 three, on day 4 three again.
        CockTower x = Check.tower("hung 5 9;leans (day=0)*(weight<3)+(day=2)*2*(7<weight)+(day=3)*0;");
        Check.due(3, () -> x.look(0));
        Check.due(3, () -> x.look(1));
        // Weights of 1 and 9 alone are left by what was seen.
        CockTower two = Check.tower("hung 5 9;leans (day=0)*(weight=1 or weight=9)+(day=1)*weight;");
        two.see(1, 1);
        Check.due(2, () -> two.heavy(0));
        Check.due(2, () -> two.look(0));
        Check.due(2, () -> two.look(1));
        two.see(2, 10);
        Check.due(1, () -> two.heavy(0));
        Check.due(1, () -> two.look(0));
        Check.due(1, () -> two.look(1));
        two.see(2, 11);
        Check.due(NONE, () -> two.look(0));
        Check.due(0, () -> two.look(1));
        // All unlike at both ends of LEAN: from 0 and from 99.
        CockTower low = Check.tower("hung 5 9;leans weight-1;");
        Check.due(8, () -> low.look(1));
        CockTower high = Check.tower("hung 5 9;ward 99;ward 99;leans (day<11)*9-(10<day)*weight;believes 0;");
        high.days(11);
        Check.due(99, () -> high.count(5));
        Check.due(8, () -> high.look(1));
        Check.due(1, () -> high.look(0));
        // 16 courses of weight 1: 2 to 9 by each, and the same lean by all of them.
        CockTower all = Check.tower("hung 1 0;".repeat(16) + "leans weight-16;");
        Check.due(128, () -> all.heavy(0));
        Check.due(1, () -> all.look(0));
        Check.due(8, () -> all.look(1));
    }

    /** "IllegalArgumentException: days, tenths." */
    private static void galesBounds() {
        Check.part("gales");
        for (CockTower x : new CockTower[] {new CockTower(), Check.tower("hung 9 0;ward 9;")}) {
            for (int days : new int[] {MIN, -1, 0, 6, 7, 60, MAX}) {
                for (int tenths : new int[] {MIN, -1, 0, 5, 10, 11, MAX}) {
                    Check.due(Check.ILLEGAL, () -> x.gales(days, tenths));
                }
            }
            for (int tenths : new int[] {MIN, -1, 11, 12, MAX}) {
                for (int days = 1; days <= 5; days++) {
                    int d = days;
                    Check.due(Check.ILLEGAL, () -> x.gales(d, tenths));
                }
            }
        }
    }

    private static int power(int base, int exponent) {
        int p = 1;
        for (int i = 0; i < exponent; i++) {
            p *= base;
        }
        return p;
    }

    /** "WIND is 9 on it, else 0: how likely nothing falls in them: as so many of 10 to the power of these DAYS." */
    private static void galesLikely() {
        Check.part("gales, how likely");
        CockTower never = Check.tower("hung 1 9;wind 9;");
        CockTower always = Check.tower("hung 9 0;");
        CockTower byOne = Check.tower("hung 5 0;ward 50;believes 0;wind 9;");
        CockTower byTwo = Check.tower("hung 4 0;ward 50;believes 0;wind 9;");
        CockTower byCalm = Check.tower("hung 5 0;ward 50;believes 0;leans (wind=0)*5;");
        CockTower byOther = Check.tower("hung 5 0;ward 50;believes 0;wind 4;leans (not wind=0 and not wind=9)*5;");
        CockTower onTheFifth = Check.tower("hung 5 0;ward 50;believes 0;leans (day=4)*(wind=9)*5;");
        for (int days = 1; days <= 5; days++) {
            for (int tenths = 0; tenths <= 10; tenths++) {
                int d = days;
                int t = tenths;
                int calm = 10 - t;
                Check.due(power(10, d), () -> never.gales(d, t));
                Check.due(power(10, d), () -> byOther.gales(d, t));
                Check.due(0, () -> always.gales(d, t));
                Check.due(power(calm, d), () -> byOne.gales(d, t));
                Check.due(power(calm, d) + d * t * power(calm, d - 1), () -> byTwo.gales(d, t));
                Check.due(power(t, d), () -> byCalm.gales(d, t));
                Check.due(d < 5 ? power(10, d) : calm * 10000, () -> onTheFifth.gales(d, t));
            }
        }
        // Nothing falls of what is done, and nothing where nothing hangs.
        Check.due(100000, () -> Check.tower("hung 9 0;hung 9 0;ground 2;").gales(5, 5));
        Check.due(100000, () -> Check.tower("plan 9 0;").gales(5, 5));
    }

    /** "NoSuchElementException: also another what. IllegalArgumentException (behind that): both are one." */
    private static void gameBounds() {
        for (int wards = 1; wards <= 8; wards++) {
            Check.part("game of " + wards);
            CockTower x = Check.tower("ward 50;".repeat(wards) + "believes 0;");
            int last = wards - 1;
            for (int wrong : new int[] {MIN, -1, wards, 8, MAX}) {
                Check.due(Check.NO_ELEMENT, () -> x.game(wrong, wrong, 0));
                Check.due(Check.NO_ELEMENT, () -> x.game(wrong, 0, 1));
                Check.due(Check.NO_ELEMENT, () -> x.game(last, wrong, 0));
            }
            for (int what : new int[] {MIN, -1, 2, MAX}) {
                Check.due(Check.NO_ELEMENT, () -> x.game(0, last, what));
                Check.due(Check.NO_ELEMENT, () -> x.game(last, last, what));
            }
            for (int what = 0; what < 2; what++) {
                int w = what;
                Check.due(Check.ILLEGAL, () -> x.game(0, 0, w));
                Check.due(Check.ILLEGAL, () -> x.game(last, last, w));
                if (wards > 1) {
                    // Nothing comes of a gift: neither gives.
                    Check.due(1 - w, () -> x.game(0, last, w));
                    Check.due(1 - w, () -> x.game(last, 0, w));
                }
            }
        }
    }

    /** "FAITH 5 less, not below 0": a gift brings 4 courses more, 8, less 4; ward 1 would lose 9 by it. */
    private static void gameFaithNotBelow0() {
        int[] rest = {1, 1, 1, 1, 2, 1, 1};
        int[] first = {10, 10, 10, 10, 0, 0, 0};
        for (int faith = 0; faith <= 6; faith++) {
            Check.part("game, faith " + faith);
            CockTower x = Check.tower("ward " + faith + ";ward 90;hung 9 0;hung 9 0;hung 9 0;hung 9 0;plan 9 0;ground 5;cost 5;"
                + "leans 0;gives 0;believes 0;");
            int f = faith;
            Check.due(rest[f], () -> x.game(0, 1, 0));
            Check.due(first[f], () -> x.game(0, 1, 1));
            Check.due(rest[f], () -> x.game(1, 0, 0));
            Check.due(first[f] / 10, () -> x.game(1, 0, 1));
            Check.due(f, () -> x.ward(0, 0));
            Check.due(0, () -> x.count(4));
        }
    }

    /** "A couple RESTS, if neither gains more by the other choice": as much is not more. */
    private static void gameOtherChoice() {
        Check.part("game, both need give");
        // Only two gifts pay the course that makes it done: 6 courses more are 12, less 4, less 5 of faith.
        CockTower x = Check.tower("ward 45;ward 45;hung 9 0;hung 9 0;hung 9 0;hung 9 0;hung 9 0;hung 9 0;plan 9 0;ground 7;cost 10;"
            + "leans 0;gives 0;believes 0;");
        Check.due(2, () -> x.game(0, 1, 0));
        Check.due(0, () -> x.game(0, 1, 1));
        // With money for it already, nobody need give.
        x.give(10);
        Check.due(1, () -> x.game(0, 1, 0));
        Check.due(0, () -> x.game(0, 1, 1));
        // With half of it, one of both must.
        x.undo();
        x.give(5);
        Check.due(2, () -> x.game(0, 1, 0));
        Check.due(1, () -> x.game(0, 1, 1));
    }

    private static void yearsBounds() {
        Check.part("years");
        CockTower x = Check.tower("ward 50;hung 1 0;");
        for (int seed : SEEDS) {
            for (int n : new int[] {MIN, -1, 61, 62, MAX}) {
                for (int what = 0; what < 3; what++) {
                    int w = what;
                    Check.due(Check.ILLEGAL, () -> x.years(seed, n, w));
                }
                Check.due(Check.NO_ELEMENT, () -> x.years(seed, n, 3));
            }
            Check.due(1, () -> x.years(seed, 0, 0));
            Check.due(0, () -> x.years(seed, 0, 1));
            Check.due(50, () -> x.years(seed, 0, 2));
        }
    }

    private static int next(int seed) {
        return seed * 1103515245 + 12345;
    }

    private static int draw(int seed, int of) {
        return (int) ((seed & 0x7fff0000L) >> 16) % of;
    }

    /** "0 FAITH of a DRAW of WARDS is a DRAW of 100": nothing else changes it, and nothing hangs, so that 2 draws nothing. */
    private static void yearsFaith() {
        for (int wards = 1; wards <= 8; wards++) {
            Check.part("years of " + wards + " wards");
            CockTower x = Check.tower("ward 50;".repeat(wards) + "believes 0;gives 0;");
            for (int start : SEEDS) {
                int[] faith = new int[wards];
                java.util.Arrays.fill(faith, 50);
                int seed = start;
                for (int day = 0; day <= 60; day += 1) {
                    if (day % 30 == 0 || day == 59 || day == 1) {
                        int days = day;
                        int sum = java.util.Arrays.stream(faith).sum();
                        Check.due(sum, () -> x.years(start, days, 2));
                    }
                    seed = next(seed);
                    int kind = draw(seed, 6);
                    if (kind == 0) {
                        seed = next(seed);
                        int ward = draw(seed, wards);
                        seed = next(seed);
                        faith[ward] = draw(seed, 100);
                    } else if (kind == 1) {
                        seed = next(seed);
                    }
                }
            }
        }
    }

    /** "1 MONEY is a DRAW of 50"; "Without WARDS nothing is drawn behind 0": it is done, so that nothing falls. */
    private static void yearsMoney() {
        for (int cost : new int[] {1, 10, 25, 49, 50}) {
            Check.part("years, cost " + cost);
            CockTower x = Check.tower("ground 2;hung 1 0;hung 1 0;" + "plan 1 0;".repeat(14) + "cost " + cost + ";");
            for (int start : SEEDS) {
                int seed = start;
                int money = 0;
                int hung = 2;
                for (int day = 0; day <= 60; day++) {
                    if (day % 20 == 0 || day == 1) {
                        int days = day;
                        int due = hung;
                        Check.due(due, () -> x.years(start, days, 0));
                    }
                    seed = next(seed);
                    int kind = draw(seed, 6);
                    if (kind == 1) {
                        seed = next(seed);
                        money = draw(seed, 50);
                    } else if (kind == 2) {
                        seed = next(seed);
                    }
                    if (money >= cost && hung < 16) {
                        money -= cost;
                        hung++;
                    }
                }
            }
        }
    }

    /** "2 MORTAR of a DRAW of COURSES that hang is 0": that one falls then, and all that is below it. */
    private static void yearsMortar() {
        for (int many = 1; many <= 8; many++) {
            Check.part("years, " + many + " hang");
            CockTower x = Check.tower("hung 9 9;".repeat(many) + "leans 0;");
            for (int start : SEEDS) {
                int seed = start;
                int hung = many;
                for (int day = 0; day <= 60; day++) {
                    if (day % 20 == 0 || day == 1) {
                        int days = day;
                        int left = hung;
                        int fell = many - hung;
                        Check.due(left, () -> x.years(start, days, 0));
                        Check.due(fell, () -> x.years(start, days, 1));
                        Check.due(0, () -> x.years(start, days, 2));
                    }
                    seed = next(seed);
                    int kind = draw(seed, 6);
                    if (kind == 1 || kind == 2 && hung > 0) {
                        seed = next(seed);
                        hung = kind == 2 ? draw(seed, hung) : hung;
                    }
                }
            }
        }
    }

    private static int feed(CockTower x, String twenty) {
        int[] five = new int[5];
        for (int i = 0; i < 20; i++) {
            five[i / 4] = five[i / 4] << 8 | twenty.charAt(i);
        }
        return x.feed(five[0], five[1], five[2], five[3], five[4]);
    }

    /** "how many it has; NONE, and none come, if it would have more than 700" */
    private static void feedUpTo700() {
        Check.part("feed");
        CockTower x = new CockTower();
        for (int i = 1; i <= 34; i++) {
            int due = 20 * i;
            Check.due(due, () -> feed(x, " ".repeat(20)));
        }
        Check.due(700, () -> feed(x, "ward 12;ward 34;    "));
        for (int i = 0; i < 3; i++) {
            Check.due(NONE, () -> feed(x, "ward 56;ward 78;    "));
            Check.due(700, () -> x.count(18));
        }
        Check.due(Check.ILLEGAL, () -> x.town(701));
        Check.due(0, () -> x.town(700));
        Check.due(2, () -> x.count(2));
        Check.due(12, () -> x.ward(0, 0));
        Check.due(34, () -> x.ward(1, 0));
        Check.due(0, () -> x.count(18));
        Check.due(20, () -> feed(x, "ward 56;ward 78;    "));
        // None was counted as refused.
        Check.due(0, () -> x.count(19));
        Check.due(0, () -> x.count(20));
        Check.due(0, () -> x.count(21));
        // Each of the twenty bytes at its place, the highest first, the sign of a number too.
        for (int place = 0; place < 20; place++) {
            int at = place;
            for (int odd : new int[] {0, 127, 128, 255}) {
                CockTower y = new CockTower();
                String text = " ".repeat(place) + (char) odd + " ".repeat(19 - place);
                Check.due(20, () -> feed(y, text));
                Check.due(1, () -> y.town(20));
                Check.due(at, y::fault);
            }
        }
    }

    /** "IllegalArgumentException: the tape has not so many, n below 0 (nothing changes)." */
    private static void townOfSoManyBytes() {
        Check.part("town");
        for (int feeds = 0; feeds <= 35; feeds += 5) {
            CockTower x = new CockTower();
            for (int i = 0; i < feeds; i++) {
                feed(x, "          ward 12;  ".replace("ward 12;", i < 8 ? "ward 12;" : "        "));
            }
            int size = 20 * feeds;
            for (int n : new int[] {MIN, -1, size + 1, size + 20, 701, MAX}) {
                Check.due(Check.ILLEGAL, () -> x.town(n));
                Check.due(size, () -> x.count(18));
                Check.due(NONE, x::fault);
                Check.due(0, () -> x.count(2));
            }
            Check.due(0, () -> x.town(size));
            Check.due(Math.min(8, size / 20), () -> x.count(2));
            Check.due(0, () -> x.count(18));
            Check.due(Check.ILLEGAL, () -> x.town(1));
            Check.due(0, () -> x.town(0));
            Check.due(0, () -> x.count(2));
            Check.due(0, () -> x.count(19));
        }
        // The place of a fault stays when a call throws, and goes with a text that has none.
        CockTower x = new CockTower();
        feed(x, "ward 12;ward 34;ward");
        Check.due(1, () -> x.town(20));
        Check.due(20, x::fault);
        Check.due(Check.ILLEGAL, () -> x.town(1));
        Check.due(20, x::fault);
        feed(x, "ward 12;ward 34;ward");
        Check.due(20, x::fault);
        Check.due(0, () -> x.town(16));
        Check.due(NONE, x::fault);
        Check.due(2, () -> x.count(2));
        // Of a tape the first bytes alone; the others are gone, too.
        feed(x, "ward 56;ward 78;ward");
        Check.due(0, () -> x.town(8));
        Check.due(1, () -> x.count(2));
        Check.due(0, () -> x.count(18));
        feed(x, "ward 1;             ");
        Check.due(0, () -> x.town(20));
        Check.due(1, () -> x.count(2));
        Check.due(1, () -> x.ward(0, 0));
        // A fault empties the tape as well.
        feed(x, "ward 1;ward 1;ward 1");
        Check.due(1, () -> x.town(20));
        Check.due(0, () -> x.count(18));
        // Behind the n bytes nothing counts, be it what it may.
        feed(x, "ward 1;$$$$$$$$$$$$$");
        Check.due(0, () -> x.town(7));
        feed(x, "ward 123;           ");
        Check.due(1, () -> x.town(7));
        Check.due(7, x::fault);
        feed(x, "ward 123;           ");
        Check.due(2, () -> x.town(8));
        Check.due(5, x::fault);
    }

    /** "ACTS, what is SEEN, the image are gone (STATUS stays)." */
    private static void statusStays() {
        Check.part("status");
        CockTower x = Check.tower("ward 50;hung 1 0;");
        Check.due(1, () -> Check.tell(x, "x"));
        x.give(0);
        x.give(100);
        x.see(21, 0);
        x.see(0, 100);
        x.see(-1, 0);
        x.give(5);
        x.see(1, 1);
        x.image();
        for (int again = 0; again < 2; again++) {
            Check.due(1, () -> x.count(19));
            Check.due(2, () -> x.count(20));
            Check.due(3, () -> x.count(21));
            Check.due(0, () -> Check.tell(x, "ward 50;hung 1 0;"));
            Check.due(0, () -> x.count(16));
            Check.due(0, () -> x.count(17));
            Check.due(false, x::restore);
            Check.due(NONE, x::undo);
            Check.due(0, () -> x.count(4));
        }
        // Neither image, restore, undo nor forget takes back what was refused.
        x.image();
        x.give(0);
        x.see(21, 0);
        Check.tell(x, "y");
        x.restore();
        x.undo();
        x.forget();
        Check.due(2, () -> x.count(19));
        Check.due(3, () -> x.count(20));
        Check.due(4, () -> x.count(21));
    }

    /** "kept as an image, in place of another one" */
    private static void imageInPlaceOfAnother() {
        Check.part("image");
        CockTower x = new CockTower();
        Check.due(false, x::restore);
        x.image();
        Check.due(true, x::restore);
        x.give(1);
        Check.due(true, x::restore);
        Check.due(0, () -> x.count(4));
        x.give(2);
        x.image();
        x.give(3);
        x.image();
        x.give(4);
        for (int again = 0; again < 3; again++) {
            Check.due(true, x::restore);
            Check.due(5, () -> x.count(4));
            Check.due(2, () -> x.count(16));
            Check.due(1, x::undo);
            Check.due(0, x::undo);
            Check.due(NONE, x::undo);
        }
        // A text with a fault leaves it, one without takes it away, even an empty one.
        Check.due(1, () -> Check.tell(x, "x"));
        Check.due(true, x::restore);
        Check.due(5, () -> x.count(4));
        Check.due(Check.ILLEGAL, () -> x.town(1));
        Check.due(true, x::restore);
        Check.due(0, () -> x.town(0));
        Check.due(false, x::restore);
        Check.due(0, () -> x.count(4));
    }

    /** "The DAY, COURSES, the PLAN, MONEY, LEAN, FAITH, STREETS, how many fell, ACTS and what is SEEN" */
    private static void imageOfAll() {
        Check.part("image of all");
        CockTower x = Check.tower("hung 2 3;hung 9 0;hung 9 0;plan 4 2;plan 1 0;ground 9;cost 5;ward 40;ward 60;ward 5;"
            + "street 0 1;street 1 2;wind 3 0;");
        x.mortar(0);
        x.street(0, 2, true);
        x.days(1);
        for (int i = 0; i < 8; i++) {
            x.see(i, 3);
        }
        Check.due(true, () -> x.count(11) > 0);
        String was = Check.told(x);
        x.image();
        x.days(7);
        x.prop();
        x.preach(0);
        x.give(99);
        x.street(0, 1, false);
        x.street(0, 2, false);
        x.mortar(0);
        x.forget();
        x.see(0, 0);
        Check.due(false, () -> was.equals(Check.told(x)));
        Check.due(true, x::restore);
        Check.due(was, () -> Check.told(x));
        // Undone from the image on, then restored once more.
        Check.due(2, x::undo);
        Check.due(1, x::undo);
        Check.due(0, x::undo);
        Check.due(3, () -> x.course(0, 1));
        Check.due(true, x::restore);
        Check.due(was, () -> Check.told(x));
        Check.due(NONE, () -> x.see(0, 0));
    }

    /** What is SEEN is kept by its days and by its leans, and what is seen later does not reach into the image. */
    private static void imageOfSeen() {
        Check.part("image of what is seen");
        CockTower x = Check.tower("hung 2 0;hung 3 0;ground 2;leans weight-1;");
        x.see(1, 6);
        x.see(2, 12);
        Check.due(4, () -> x.heavy(1));
        x.image();
        x.forget();
        x.see(1, 7);
        x.see(2, 14);
        Check.due(5, () -> x.heavy(1));
        Check.due(true, x::restore);
        Check.due(4, () -> x.heavy(1));
        Check.due(2, () -> x.heavy(0));
        x.forget();
        // 4 in all: 1 of the first one, or 2 of the other one.
        x.see(2, 6);
        x.see(1, 3);
        Check.due(1, () -> x.heavy(1));
        Check.due(true, x::restore);
        Check.due(2, () -> x.count(17));
        Check.due(4, () -> x.heavy(1));
    }
}
