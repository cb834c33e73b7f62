/** The text and its faults: which one, and where. */
public final class FaultsTest {
    public static void main(String[] args) {
        goodTexts();
        tokensThatCantStand();
        tooMuch();
        unknown();
        streetsTwice();
        linesTwice();
        theFirstAndTheLeast();
        whatRulesGive();
        Check.end("FaultsTest");
    }

    private static void fault(int fault, int place, String text) {
        Check.part("[" + text + "]");
        CockTower x = new CockTower();
        Check.due(fault + " at " + place, () -> Check.tell(x, text) + " at " + x.fault());
    }

    private static void good(String text) {
        fault(0, -1, text);
    }

    private static void goodTexts() {
        good("");
        good("  \n \n");
        good("hung1 0;plan9 9;ground2;cost1;ward0;ward99;street0 1;wind0;leans0;gives0;believes0;");
        good("\nhung\n9\n9\n;\nground 16 ; cost 99 ; wind 0 1 2 3 4 5 6 9 ;");
        good("ground 0002;cost 0099;");
        good("leans lean+height*day-wind/weight<mortar;");
        good("gives faith=doubt or fell and lean<height or not day;");
        good("believes not not not not not not faith;");
        good("leans (((((lean)))));");
        good("leans (1)+(2)*(3)-(((((4)))));");
        good("leans not(not(not(not(not not not not not not 1))));");
        good("leans 9999;");
        good("leans 1<2 and 2=3 or(1<2)<3;");
        good("hung 1 0;".repeat(8) + "plan 1 0;".repeat(8));
        good("ward 0;".repeat(8) + "street 7 0;street 0 1;");
    }

    private static void tokensThatCantStand() {
        fault(1, 0, ";");
        fault(1, 0, "5;");
        fault(1, 0, "12345;");
        fault(1, 0, "lean 1;");
        fault(1, 0, "hungs 1 0;");
        fault(1, 0, "Hung 1 0;");
        fault(1, 0, "\t");
        fault(1, 1, " " + (char) 233);
        fault(1, 0, "" + (char) 0);
        fault(1, 9, "hung 1 0 5;");
        fault(1, 5, "hung ;");
        fault(1, 5, "hung x 0;");
        fault(1, 5, "hung -1 0;");
        fault(1, 4, "hung");
        fault(1, 6, "hung  ");
        fault(1, 8, "hung 1 0");
        fault(1, 5, "hung ");
        fault(1, 6, "hung 1.0;");
        fault(1, 4, "wind;");
        fault(1, 5, "wind ");
        fault(1, 7, "wind 1 x;");
        fault(1, 9, "ground 2 2;");
        fault(1, 6, "cost 1+1;");
        fault(1, 6, "leans ;");
        fault(1, 5, "leans");
        fault(1, 7, "leans 1");
        fault(1, 8, "leans 1 2;");
        fault(1, 8, "leans 1 12345;");
        fault(1, 8, "leans 1 lean;");
        fault(1, 8, "leans 1 not 1;");
        fault(1, 6, "leans -1;");
        fault(1, 8, "leans 1++1;");
        fault(1, 7, "leans 1);");
        fault(1, 8, "leans (1;");
        fault(1, 7, "leans ();");
        fault(1, 9, "leans 1<2<3;");
        fault(1, 9, "leans 1=2=3;");
        fault(1, 8, "leans 1<;");
        fault(1, 7, "leans 1(2);");
        fault(1, 7, "leans 1>2;");
        fault(1, 12, "leans ((((((");
        fault(1, 12, "leans (((((();");
        fault(1, 12, "leans ((((((+1;");
        fault(1, 12, "leans (((((()))))));");
        fault(1, 15, "ward 1;street 0");
        fault(1, 8, "hung 1 0hung 1 0;");
    }

    private static void tooMuch() {
        fault(2, 5, "hung 0 0;");
        fault(2, 5, "hung 10 0;");
        fault(2, 7, "hung 9 10;");
        fault(2, 5, "hung 00001 0;");
        fault(2, 5, "plan 0 0;");
        fault(2, 7, "plan 1 10;");
        fault(2, 7, "ground 1;");
        fault(2, 7, "ground 17;");
        fault(2, 5, "cost 0;");
        fault(2, 5, "cost 100;");
        fault(2, 5, "ward 100;");
        fault(2, 5, "wind 10;");
        fault(2, 7, "wind 1 10;");
        fault(2, 21, "wind 1 2 3 4 5 6 7 8 9;");
        fault(2, 21, "wind 1 2 3 4 5 6 7 8 99999;");
        fault(2, 6, "leans 10000;");
        fault(2, 6, "leans 00000;");
        fault(2, 144, "hung 1 0;".repeat(10) + "plan 1 0;".repeat(6) + "hung 1 0;");
        fault(2, 144, "hung 1 0;".repeat(16) + "plan x");
        fault(2, 56, "ward 0;".repeat(8) + "ward 0;");
        fault(2, 12, "leans ((((((1))))));");
        fault(2, 12, "leans ((((((lean))))));");
        fault(2, 12, "leans ((((((foo))))));");
        fault(2, 12, "leans ((((((or))))));");
        fault(2, 12, "leans ((((((not 1))))));");
        fault(2, 12, "leans (((((((1)))))));");
        fault(2, 12, "leans ((((((99999))))));");
        fault(2, 30, "leans not not not not not not not 1;");
        fault(2, 21, "ward 1;ward 2;street 12345 0;");
        fault(2, 23, "ward 1;ward 2;street 0 00001;");
    }

    private static void unknown() {
        fault(3, 6, "leans faith;");
        fault(3, 6, "leans doubt;");
        fault(3, 6, "leans fell;");
        fault(3, 6, "gives wind;");
        fault(3, 6, "gives weight;");
        fault(3, 9, "believes mortar;");
        fault(3, 6, "leans leans;");
        fault(3, 6, "leans or;");
        fault(3, 6, "leans hung 1 0;");
        fault(3, 9, "leans 1 +not 1;");
        fault(3, 8, "leans 1<not 1;");
        fault(3, 10, "leans not and;");
        fault(3, 7, "leans (money);");
        fault(3, 6, "leans z;");
        fault(3, 6, "leans a;");
        fault(3, 7, "street 0 1;");
        fault(3, 14, "ward 1;street 1 0;");
        fault(3, 16, "ward 1;street 0 1;");
        fault(3, 16, "ward 1;street 0 9999;");
        fault(3, 14, "ward 1;street 8 0;");
        fault(3, 16, "ward 1;street 0 1;ward 1;");
    }

    private static void streetsTwice() {
        fault(4, 16, "ward 1;street 0 0;");
        fault(4, 34, "ward 1;ward 1;street 0 1;street 0 1;");
        fault(4, 34, "ward 1;ward 1;street 0 1;street 1 0;");
    }

    private static void linesTwice() {
        fault(5, 9, "ground 2;ground 2;");
        fault(5, 7, "cost 1;cost 1;");
        fault(5, 7, "wind 1;wind 1;");
        fault(5, 8, "leans 1;leans 1;");
        fault(5, 8, "gives 1;gives 1;");
        fault(5, 11, "believes 1;believes 1;");
        fault(5, 9, "ground 9;ground");
        fault(5, 8, "cost 10;cost 0;");
    }

    private static void theFirstAndTheLeast() {
        Check.part("the first fault, the least of one token");
        fault(2, 5, "hung 0 x");
        fault(3, 6, "leans foo 12345;");
        fault(1, 11, "leans lean (;");
        fault(2, 7, "ward   100;street 0 0;");
        CockTower x = new CockTower();
        Check.due(1, () -> Check.tell(x, "hung 1 0;hung 1;"));
        Check.due(15, x::fault);
        Check.due(0, () -> x.count(0));
        // The text ends with its n bytes, even within a row that goes on behind them on the tape.
        Check.feed(x, "leans 12345;");
        Check.due(1, () -> x.town(10));
        Check.due(10, x::fault);
        Check.feed(x, "leans leanx;");
        Check.due(1, () -> x.town(10));
        Check.due(10, x::fault);
        Check.feed(x, "hung 1 0;hung 1;");
        Check.due(0, () -> x.town(9));
        Check.due(1, () -> x.count(0));
    }

    /** LEAN behind one day from 0, for a rule whose answer is 0 to 9. */
    private static void leans(int due, String expr) {
        Check.part("leans " + expr);
        CockTower x = Check.tower("hung 3 2;hung 4 1;wind 5;leans " + expr + ";");
        Check.due(due, () -> x.then(1, 2));
    }

    private static void whatRulesGive() {
        leans(7, "1+2*3");
        leans(9, "(1+2)*3");
        leans(4, "9-3-2");
        leans(2, "9/2/2");
        leans(3, "7/2");
        leans(3, "0-(0-7)/2");
        leans(0, "5/0");
        leans(6, "1+5/0+5");
        leans(1, "2<3");
        leans(0, "3<2");
        leans(0, "2<2");
        leans(1, "2=2");
        leans(1, "2 and 3");
        leans(0, "2 and 0");
        leans(1, "0 or 7");
        leans(0, "0 or 0");
        leans(0, "not 7");
        leans(1, "not not 7");
        leans(1, "not 3<2");
        leans(0, "not 2<3");
        leans(1, "1 or 1 and 0");
        leans(0, "(1 or 1)and 0");
        leans(1, "not 1 or 1");
        leans(1, "1+1=2");
        leans(1, "1<2 and 2<3");
        leans(5, "wind");
        leans(7, "weight");
        leans(3, "mortar");
        leans(2, "height");
        leans(0, "day");
        leans(0, "lean");
        leans(9, "999");
        leans(0, "0-999");
        // 9999 * 9999 * 9999 wraps to a number below 0, and that less 1 stays there.
        leans((int) (9999L * 9999 * 9999) < 0 ? 1 : 0, "9999*9999*9999<0");
        // -2147483648 / -1 wraps to itself: 4096 * 4096 * 128 is 2147483648.
        leans(1, "4096*4096*128/(0-1)<0");
        leans(1, "4096*4096*128-1=4096*4096*128-2+1");
        leans(1, "0<4096*4096*128-1");
    }
}
