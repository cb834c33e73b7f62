import java.util.ArrayList;
import java.util.List;

/** Of "Terms": each sentence about a text that names a bound, with the last that is allowed and the first that is not. */
public final class EdgesOfTextTest {
    private static final String[] VALUES = {"lean", "height", "day", "wind", "weight", "mortar", "faith", "doubt", "fell"};
    private static final String[] RULES = {"leans", "gives", "believes"};

    public static void main(String[] args) {
        atMost700Bytes();
        shorterRulesBehindLonger();
        tokensByTheirBytes();
        longestRow();
        numbersOf1To4Digits();
        numbersAsTold();
        numbersAreKept();
        coursesAtMost16();
        wardsAtMost8();
        windsAtMost8();
        linesThatEndTooSoon();
        linesThatGoOn();
        valuesOfEachRule();
        wordsWhereAPartMustStand();
        nots();
        exprWithinOthers();
        oneTestAlone();
        wardsToldAhead();
        streetsToldAhead();
        secondLines();
        firstAlongTheText();
        leastOfOneToken();
        faultLeavesAll();
        Check.end("EdgesOfTextTest");
    }

    private static void fault(int fault, int place, String text) {
        Check.part("[" + text + "]");
        CockTower x = new CockTower();
        Check.due(fault + " at " + place, () -> Check.tell(x, text) + " at " + x.fault());
    }

    private static void good(String text) {
        fault(0, CockTower.NONE, text);
    }

    /** "A TEXT of at most 700 bytes tells it." */
    private static void atMost700Bytes() {
        good(" ".repeat(700));
        good(" ".repeat(693) + "ward 1;");
        fault(1, 699, " ".repeat(699) + "x");
        fault(1, 699, " ".repeat(699) + ";");
        fault(1, 700, " ".repeat(694) + "ward 1");
        fault(1, 0, "x".repeat(700));
        fault(1, 0, "1".repeat(700));
        fault(2, 5, "ward " + "1".repeat(695));
        fault(2, 5, "ward " + "0".repeat(695));
        // The tape ends within a word of the language, and nothing is behind it.
        fault(1, 697, " ".repeat(697) + "hun");
        fault(1, 700, " ".repeat(696) + "hung");
        fault(1, 693, " ".repeat(693) + "believe");
        fault(3, 697, "leans 1+" + " ".repeat(689) + "lea");
        fault(3, 695, "gives 1+" + " ".repeat(687) + "heigh");
        fault(1, 698, "leans 1 " + " ".repeat(690) + "an");
        fault(1, 700, "leans 1 " + " ".repeat(689) + "and");
        // Rules as long as a text can be: 1 and 346 times 1 more, a day's 9 at most.
        String most = "leans 1" + "+1".repeat(346) + ";";
        Check.part("a rule of 700 bytes");
        Check.due(700, most::length);
        Check.due(9, () -> Check.tower(most).then(1, 2));
        // One text behind the other, as often as an object lives.
        CockTower often = new CockTower();
        for (int i = 0; i < 12; i++) {
            Check.due(0, () -> Check.tell(often, most));
            Check.due(9, () -> often.then(1, 2));
            often.town(0);
        }
        String none = "leans 1" + "*1".repeat(345) + "*0;";
        Check.due(700, none::length);
        Check.due(0, () -> Check.tower(none).then(1, 2));
        CockTower zero = new CockTower();
        for (int i = 0; i < 12; i++) {
            Check.due(0, () -> Check.tell(zero, none));
            Check.due(0, () -> zero.then(1, 2));
        }
        String divided = "leans 8" + "/1".repeat(345) + "/2;";
        Check.due(4, () -> Check.tower(divided).then(1, 2));
        String either = "leans 0" + " or 0".repeat(136) + " or 7;";
        Check.due(1, () -> Check.tower(either).then(1, 2));
        String both = "leans 1" + " and 1".repeat(113) + " and 0;";
        Check.due(0, () -> Check.tower(both).then(1, 2));
    }

    /** "are a TOWN, all anew": a longer rule that was told earlier does not reach into a shorter one. */
    private static void shorterRulesBehindLonger() {
        Check.part("shorter rules behind longer ones");
        String[] longer = {"leans not 7;", "leans not not not 7;", "leans 7+7;", "leans 7*0;", "leans 7 and not 7;"};
        String[] shorter = {"leans 7;", "leans 0+7;", "leans not 0*7;"};
        int[] due = {7, 7, 1};
        for (String before : longer) {
            for (int i = 0; i < shorter.length; i++) {
                String text = shorter[i];
                int lean = due[i];
                CockTower x = new CockTower();
                for (int again = 0; again < 3; again++) {
                    Check.due(0, () -> Check.tell(x, before));
                    Check.due(0, () -> Check.tell(x, before));
                    Check.due(0, () -> Check.tell(x, text));
                    Check.due(lean, () -> x.then(1, 2));
                }
            }
        }
        // A rule that is told no more is without one again, behind faults too.
        CockTower x = new CockTower();
        Check.due(0, () -> Check.tell(x, "ward 40;leans 5;gives 6;believes 7;"));
        Check.due(3, () -> Check.tell(x, "ward 40;leans 1;gives 1;believes wind;"));
        Check.due(5, () -> x.then(1, 2));
        Check.due(6, () -> x.then(1, 3));
        Check.due(47, () -> x.wardThen(0, 1, 0));
        Check.due(0, () -> Check.tell(x, "ward 40;"));
        Check.due(2, () -> x.then(1, 2));
        Check.due(2, () -> x.then(1, 3));
        Check.due(41, () -> x.wardThen(0, 1, 0));
    }

    private static boolean isBlank(int b) {
        return b == 32 || b == 10;
    }

    private static boolean isLetter(int b) {
        return b >= 97 && b <= 122;
    }

    private static boolean isDigit(int b) {
        return b >= 48 && b <= 57;
    }

    /** "TOKENS: words (a .. z), NUMBERS, signs ; ( ) + - * / < = ; blanks (32, 10) between them count for nothing." */
    private static void tokensByTheirBytes() {
        for (int b = 0; b < 256; b++) {
            char c = (char) b;
            if (isBlank(b)) {
                good(c + "ward" + c + "1" + c + ";" + c);
                fault(1, 8, "leans 1" + c + "1;");
                fault(1, 0, "wa" + c + "rd 1;");
            } else {
                fault(1, 0, c + "ward 1;");
                fault(1, 7, "ward 1;" + c);
            }
            if (isDigit(b)) {
                good("ward" + c + "1;");
                good("leans 1" + c + "1;");
            } else if (isLetter(b)) {
                fault(1, 0, "ward" + c + " 1;");
                fault(1, 7, "leans 1" + c + "1;");
            } else if (!isBlank(b)) {
                fault(1, 4, "ward" + c + "1;");
                boolean joins = "+-*/<=".indexOf(c) >= 0;
                if (joins) {
                    good("leans 1" + c + "1;");
                } else {
                    fault(1, c == ';' ? 8 : 7, "leans 1" + c + "1;");
                }
            }
        }
    }

    /** "words (a .. z, the longest row)" */
    private static void longestRow() {
        fault(1, 0, "hun 1 0;");
        fault(1, 0, "hungg 1 0;");
        fault(1, 0, "hunghung 1 0;");
        fault(1, 0, "zhung 1 0;");
        fault(1, 0, "wards 1;");
        fault(1, 0, "w");
        fault(3, 6, "leans lea;");
        fault(3, 6, "leans leans;");
        fault(3, 6, "leans leana;");
        fault(3, 6, "leans leanz;");
        fault(3, 6, "leans notlean;");
        fault(3, 6, "leans no 1;");
        fault(1, 11, "leans lean orr 1;");
        fault(1, 11, "leans lean o 1;");
        fault(1, 11, "leans lean an 1;");
        fault(1, 10, "leans leanXor 1;");
        fault(1, 8, "leans 1 orlean;");
        good("leans 1or 1and 1;");
        good("leans(1)or(1)and(not(1));");
        good("leans not(1);");
        good("hung1 1;ward1;ward1;street0 1;");
    }

    /** "NUMBERS (1 to 4 digits)"; "2 .. a NUMBER of 5 digits or more" */
    private static void numbersOf1To4Digits() {
        for (String rule : RULES) {
            int place = rule.length() + 1;
            for (String number : new String[] {"0", "9", "00", "0000", "9999", "0001"}) {
                good(rule + " " + number + ";");
            }
            for (String number : new String[] {"00000", "10000", "99999", "00001", "2147483648", "4294967297"}) {
                fault(2, place, rule + " " + number + ";");
                fault(2, place + 2, rule + " 1+" + number + ";");
                fault(2, place + 1, rule + " (" + number + ");");
                fault(2, place + 4, rule + " not " + number + ";");
                fault(2, place + 5, rule + " 1and " + number + ";");
            }
        }
        // Digits side by side with a word are two TOKENS.
        good("leans 1or 2;");
        fault(1, 7, "leans 1lean;");
        fault(1, 10, "leans lean1;");
        // Where no NUMBER can stand, how long it is does not matter.
        fault(1, 0, "12345");
        fault(1, 7, "ward 1;12345;");
        fault(1, 7, "ward 1 12345;");
        fault(1, 8, "leans 1 12345;");
        fault(1, 9, "leans (1)12345;");
        fault(1, 9, "hung 1 1 12345;");
    }

    /** A line with %s where a number stands that may be from least to most. */
    private static void bounds(String line, int least, int most) {
        int place = line.indexOf("%s");
        for (int n = least; n <= most; n++) {
            good(line.replace("%s", "" + n));
            good(line.replace("%s", String.format("%04d", n)));
            fault(2, place, line.replace("%s", String.format("%05d", n)));
        }
        if (least > 0) {
            fault(2, place, line.replace("%s", "" + (least - 1)));
        }
        int[] above = {most + 1, most + 2, most + 10, most + 100, 256 + least, 9999, 10000, 99999};
        for (int n : above) {
            fault(2, place, line.replace("%s", "" + n));
        }
        // Numbers that would wrap around to one that is allowed.
        fault(2, place, line.replace("%s", "" + ((1L << 32) + most)));
        fault(2, place, line.replace("%s", "1844674407370955161" + (6 + least)));
        fault(1, place, line.replace("%s", "-1"));
        fault(1, place, line.replace("%s", "x"));
        fault(1, place, line.replace("%s", "(1)"));
        // What is not as told is found ahead of what follows.
        fault(2, place, line.substring(0, place) + (most + 1));
        fault(1, line.length() - 3 + ("" + most).length(), line.replace("%s", "" + most).replace(";", ""));
    }

    /** "each a WEIGHT (1 to 9), MORTAR (0 to 9)", "GROUND (2 to 16)", "COST (1 to 99)", "FAITH (0 to 99)", "WIND (0 to 9)" */
    private static void numbersAsTold() {
        bounds("hung %s 0;", 1, 9);
        bounds("hung 1 %s;", 0, 9);
        bounds("plan %s 0;", 1, 9);
        bounds("plan 1 %s;", 0, 9);
        bounds("ground %s;", 2, 16);
        bounds("cost %s;", 1, 99);
        bounds("ward %s;", 0, 99);
        bounds("wind %s;", 0, 9);
        bounds("wind 9 %s;", 0, 9);
        bounds("wind 9 9 9 9 9 9 9 %s;", 0, 9);
    }

    private static void numbersAreKept() {
        Check.part("what is told is so");
        for (int n = 0; n <= 9; n++) {
            int one = n;
            int weight = Math.max(1, n);
            CockTower x = Check.tower("hung " + weight + " " + n + ";plan " + weight + " " + n + ";wind " + n + ";");
            Check.due(weight, () -> x.course(0, 0));
            Check.due(one, () -> x.course(0, 1));
            Check.due(weight, () -> x.course(1, 0));
            Check.due(one, () -> x.course(1, 1));
            Check.due(one, () -> Check.tower("wind " + one + ";").then(1, 2));
        }
        for (int n = 0; n <= 99; n++) {
            int one = n;
            Check.due(one, () -> Check.tower("ward " + one + ";").ward(0, 0));
            // A gift of the cost hangs the course on the next day, a gift of less does not.
            if (n > 0) {
                CockTower x = Check.tower("plan 1 9;cost " + n + ";wind 0;");
                x.give(n);
                Check.due(1, () -> x.then(1, 0));
                Check.due(0, () -> x.then(1, 3));
                x.undo();
                if (n > 1) {
                    x.give(n - 1);
                }
                Check.due(0, () -> x.then(1, 0));
            }
        }
        for (int n = 2; n <= 16; n++) {
            String ground = "ground " + n + ";";
            String hung = "hung 1 0;";
            int below = n - 1;
            Check.due(1, () -> Check.tower(ground + hung.repeat(below + 1)).count(10));
            Check.due(0, () -> Check.tower(ground + hung.repeat(below)).count(10));
        }
        // "9 without", "10 without", "always 2 without"
        Check.due(0, () -> Check.tower("hung 1 0;".repeat(8)).count(10));
        Check.due(1, () -> Check.tower("hung 1 0;".repeat(9)).count(10));
        CockTower cost = Check.tower("plan 1 9;");
        cost.give(9);
        Check.due(0, () -> cost.then(1, 0));
        cost.give(1);
        Check.due(1, () -> cost.then(1, 0));
        Check.due(2, () -> Check.tower("").then(1, 2));
        Check.due(98, () -> Check.tower("").then(49, 2));
        Check.due(99, () -> Check.tower("").then(50, 2));
    }

    /** "the first TOKEN of the 17th COURSE ('hung' and 'plan' together)" */
    private static void coursesAtMost16() {
        for (int hung = 0; hung <= 16; hung++) {
            String full = "hung 1 0;".repeat(hung) + "plan 1 0;".repeat(16 - hung);
            good(full);
            fault(2, 144, full + "hung 1 0;");
            fault(2, 144, full + "plan 1 0;");
            fault(2, 144, full + "hung");
            fault(2, 144, full + "plan;");
            fault(2, 145, full + " plan 0 0;");
            good(full + "ward 1;");
            String mixed = "plan 1 0;".repeat(16 - hung) + "hung 1 0;".repeat(hung);
            good(mixed);
            fault(2, 144, mixed + "plan 1 0;");
            int many = hung;
            Check.due(many, () -> Check.tower(mixed).count(0));
            Check.due(16 - many, () -> Check.tower(mixed).count(1));
        }
        // Each text counts anew, behind a fault too.
        CockTower x = new CockTower();
        String full = "hung 1 0;".repeat(16);
        Check.due(0, () -> Check.tell(x, full));
        Check.due(2, () -> Check.tell(x, full + "hung 1 0;"));
        Check.due(0, () -> Check.tell(x, full));
        Check.due(16, () -> x.count(0));
        Check.due(Check.NO_ELEMENT, () -> x.course(16, 0));
        Check.due(1, () -> x.course(15, 0));
    }

    /** "WARDS 0, 1 .. (at most 8)"; "the first TOKEN of .. the 9th WARD" */
    private static void wardsAtMost8() {
        String full = "ward 1;".repeat(8);
        good(full);
        fault(2, 56, full + "ward 1;");
        fault(2, 56, full + "ward");
        fault(2, 56, full + "ward 100;");
        fault(2, 57, full + " ward x;");
        good(full + "street 0 7;");
        CockTower x = new CockTower();
        Check.due(0, () -> Check.tell(x, full));
        Check.due(2, () -> Check.tell(x, full + "ward 1;"));
        Check.due(0, () -> Check.tell(x, full));
        Check.due(8, () -> x.count(2));
        Check.due(1, () -> x.ward(7, 0));
        Check.due(Check.NO_ELEMENT, () -> x.ward(8, 0));
    }

    /** "WIND: 1 to 8 numbers (0 to 9), that of a DAY by DAY MOD how many"; "the 9th WIND" */
    private static void windsAtMost8() {
        fault(1, 4, "wind;");
        fault(1, 5, "wind ;");
        fault(1, 4, "wind");
        for (int many = 1; many <= 8; many++) {
            StringBuilder line = new StringBuilder("wind");
            for (int i = 0; i < many; i++) {
                line.append(' ').append(i + 1);
            }
            CockTower x = Check.tower(line + ";leans wind;");
            int[] lean = {0};
            // The first day again behind the last one.
            for (int day = 0; day <= 2 * many + 1 && lean[0] < 90; day++) {
                int behind = day;
                Check.due(lean[0], () -> x.then(behind, 2));
                lean[0] += day % many + 1;
            }
        }
        String full = "wind 1 2 3 4 5 6 7 8";
        good(full + ";");
        fault(2, 21, full + " 9;");
        fault(2, 21, full + " 0");
        fault(2, 21, full + " 10;");
        fault(1, 21, full + " x;");
        fault(1, 20, full);
        // As told by the day, not by how many days went by since a call.
        CockTower x = Check.tower("wind 0 0 7;");
        x.days(2);
        Check.due(7, () -> x.then(1, 2));
        Check.due(7, () -> x.then(3, 2));
        Check.due(14, () -> x.then(4, 2));
    }

    /** "1 .. (the text's length where it ends too soon)": each text below is cut at each place. */
    private static void linesThatEndTooSoon() {
        String[] lines = {"hung 1 0;", "plan 1 0;", "ground 2;", "cost 1;", "ward 1;", "wind 1 2;", "leans 1;",
            "gives (1+2)*3<4 and not 5 or 6;", "believes ((1));"};
        for (String line : lines) {
            good(line);
            for (int end = 1; end < line.length(); end++) {
                String cut = line.substring(0, end);
                Check.part("[" + cut + "]");
                int length = end;
                boolean withinWord = Character.isLetter(line.charAt(end - 1)) && Character.isLetter(line.charAt(end));
                if (!withinWord) {
                    fault(1, length, cut);
                    fault(1, length + 2, cut + " \n");
                }
            }
        }
        fault(1, 14, "ward 1;street ");
        fault(1, 15, "ward 1;street 0");
        fault(1, 16, "ward 1;street 0 ");
        fault(1, 25, "ward 1;ward 1;street 0 1 ");
        good("");
        good("\n");
    }

    private static void linesThatGoOn() {
        fault(1, 9, "hung 1 0 0;");
        fault(1, 9, "plan 1 0 0;");
        fault(1, 9, "ground 2 3;");
        fault(1, 7, "cost 1 1;");
        fault(1, 7, "ward 1 1;");
        fault(1, 25, "ward 1;ward 1;street 0 1 0;");
        fault(1, 7, "wind 1 leans 1;");
        fault(1, 8, "leans 1 1;");
        fault(1, 8, "leans 1;;");
        fault(1, 0, ";;");
        // Each word of the language that begins no line.
        for (String word : new String[] {"lean", "height", "day", "weight", "mortar", "faith", "doubt", "fell", "or", "and", "not"}) {
            fault(1, 0, word + " 1;");
            fault(1, 7, "ward 1;" + word + " 1;");
        }
        for (String sign : new String[] {"(", ")", "+", "-", "*", "/", "<", "=", ";"}) {
            fault(1, 5, "ward " + sign + "1;");
            fault(1, 0, sign + "ward 1;");
        }
    }

    /** "VALUES of all ..; of LEANS also ..; of GIVES and BELIEVES ..": 3, if it is no VALUE of this EXPR. */
    private static void valuesOfEachRule() {
        for (String rule : RULES) {
            for (int v = 0; v < VALUES.length; v++) {
                boolean known = v < 3 || (rule.equals("leans") ? v < 6 : v >= 6);
                String value = VALUES[v];
                if (known) {
                    good(rule + " " + value + ";");
                    good(rule + " (1+" + value + ")*2<" + value + " and not " + value + ";");
                } else {
                    fault(3, rule.length() + 1, rule + " " + value + ";");
                    fault(3, rule.length() + 4, rule + " (1+" + value + ");");
                    fault(3, rule.length() + 6, rule + " 1 or " + value + ";");
                    fault(3, rule.length() + 5, rule + " not " + value + ";");
                    fault(3, rule.length() + 3, rule + " 1<" + value + ";");
                }
            }
        }
    }

    /** "3 any word where a PART must stand that is no VALUE of this EXPR" */
    private static void wordsWhereAPartMustStand() {
        String[] none = {"a", "z", "foo", "or", "and", "hung", "plan", "ground", "cost", "ward", "street", "leans", "gives",
            "believes", "money", "wind"};
        for (String word : none) {
            fault(3, 6, "gives " + word + ";");
            fault(3, 8, "gives 1+" + word + ";");
            fault(3, 8, "gives 1*" + word + ";");
            fault(3, 8, "gives 1=" + word + ";");
            fault(3, 7, "gives (" + word + ");");
            fault(3, 10, "gives not " + word + ";");
            fault(3, 11, "gives 1 or " + word + ";");
            fault(3, 12, "gives 1 and " + word + ";");
            // Behind a PART no PART can stand: but for those that join, the word itself can't.
            if (!word.equals("or") && !word.equals("and")) {
                fault(1, 8, "gives 1 " + word + ";");
            }
        }
        // A 'not' stands where a NOT may, not where a PART must.
        good("gives not 1 or not 1 and not(not 1);");
        for (String sign : new String[] {"+", "-", "*", "/", "<", "="}) {
            fault(3, 8, "gives 1" + sign + "not 1;");
            fault(1, 6, "gives " + sign + "1;");
            fault(1, 8, "gives 1" + sign + sign + "1;");
            fault(1, 8, "gives 1" + sign + ";");
            fault(1, 8, "gives 1" + sign + ")1;");
        }
        fault(1, 8, "gives 1 not 1;");
        fault(1, 9, "gives not;");
        fault(1, 10, "gives 1 or;");
        fault(1, 11, "gives 1 and;");
    }

    /** "the seventh 'not' side by side" */
    private static void nots() {
        for (String rule : RULES) {
            int place = rule.length() + 1;
            good(rule + " " + "not ".repeat(6) + "1;");
            fault(2, place + 24, rule + " " + "not ".repeat(7) + "1;");
            fault(2, place + 24, rule + " " + "not ".repeat(8) + "1;");
            fault(2, place + 24, rule + " " + "not ".repeat(7) + "x");
            fault(1, place + 23, rule + " " + "not ".repeat(6).strip() + ";");
            fault(2, place + 25, rule + " (" + "not ".repeat(7) + "1);");
            fault(2, place + 29, rule + " 1 or " + "not ".repeat(7) + "1;");
            // Others are not side by side with them.
            good(rule + " " + "not ".repeat(6) + "1 and " + "not ".repeat(6) + "1 or " + "not ".repeat(6) + "1;");
            good(rule + " " + "not ".repeat(6) + "(" + "not ".repeat(6) + "(" + "not ".repeat(6) + "1));");
        }
        for (int many = 0; many <= 6; many++) {
            String rule = "leans " + "not ".repeat(many) + "7;";
            int due = many == 0 ? 7 : 1 - many % 2;
            Check.part("[" + rule + "]");
            Check.due(due, () -> Check.tower(rule).then(1, 2));
        }
    }

    /** "2 .. of an EXPR within 6 others (a NUMBER, any word, a parenthesis)" */
    private static void exprWithinOthers() {
        for (String rule : RULES) {
            int place = rule.length() + 1;
            for (int deep = 0; deep <= 5; deep++) {
                good(rule + " " + "(".repeat(deep) + "1" + ")".repeat(deep) + ";");
                fault(1, place + deep, rule + " " + "(".repeat(deep) + ")" + ";");
                fault(1, place + 2 * deep + 1, rule + " " + "(".repeat(deep) + "1" + ")".repeat(deep + 1) + ";");
            }
            String six = rule + " " + "(".repeat(6);
            for (String first : new String[] {"1", "0000", "12345", "day", "wind", "faith", "foo", "not 1", "or", "and", "hung", "(1)", "("}) {
                fault(2, place + 6, six + first + "))))));");
                fault(2, place + 6, six + first);
                fault(2, place + 8, six + " \n" + first);
            }
            for (String first : new String[] {")", ";", "+", "-", "*", "/", "<", "=", "$", "A", ""}) {
                fault(1, place + 6, six + first);
            }
            // Side by side they are not one within another.
            good(rule + " (1)" + "+(((((1)))))".repeat(20) + ";");
            fault(2, place + 12, rule + " ((1))+((((((1))))));");
            fault(2, place + 10, rule + " not ((((((1))))));");
        }
        Check.part("five parentheses");
        Check.due(7, () -> Check.tower("leans (((((7)))));").then(1, 2));
        // All that can wait, on each level: or, and, a test, a sum, a product.
        String level = "0 or 1 and 0<1+1*(";
        String text = "leans " + level.repeat(5) + "0 or 1 and 0<1+1*1" + ")".repeat(5) + ";";
        Check.due(1, () -> Check.tower(text).then(1, 2));
    }

    /** "NOT: 'not' NOT | SUM [('<' | '=') SUM]" */
    private static void oneTestAlone() {
        for (String one : new String[] {"<", "="}) {
            for (String two : new String[] {"<", "="}) {
                fault(1, 9, "leans 1" + one + "2" + two + "3;");
                good("leans (1" + one + "2)" + two + "3;");
                good("leans 1" + one + "(2" + two + "3);");
                good("leans 1" + one + "2 and 2" + two + "3;");
            }
        }
        fault(1, 8, "leans 1<=2;");
        fault(1, 7, "leans 1>2;");
        fault(1, 8, "leans 1==2;");
    }

    /** "a WARD that isn't told ahead, however great" */
    private static void wardsToldAhead() {
        for (int wards = 0; wards <= 8; wards++) {
            String told = "ward 1;".repeat(wards);
            int place = 7 * wards + 7;
            for (int n : new int[] {wards, wards + 1, 8, 9, 99, 256, 9999}) {
                fault(3, place, told + "street " + n + " 0;");
                fault(3, place, told + "street " + n);
                fault(3, place, told + "street " + n + " " + n + ";");
                if (wards > 0) {
                    fault(3, place + 2, told + "street 0 " + n + ";");
                    fault(3, place + 2, told + "street 0 " + n);
                }
            }
            if (wards > 1) {
                int last = wards - 1;
                good(told + "street 0 " + last + ";");
                good(told + "street " + last + " 0;");
                good(told + "street 0000 000" + last + ";");
            }
        }
        // Told behind is not told ahead.
        fault(3, 16, "ward 1;street 0 1;ward 1;");
        fault(3, 7, "street 0 1;ward 1;ward 1;");
        good("ward 1;ward 1;street 0 1;ward 1;street 2 1;");
        // Of one TOKEN the least: a NUMBER of 5 digits is too much already.
        fault(2, 14, "ward 1;street 10000 0;");
        fault(2, 16, "ward 1;street 0 10000;");
        fault(2, 21, "ward 1;ward 1;street 00001 0;");
        fault(1, 14, "ward 1;street x 0;");
        fault(1, 14, "ward 1;street -1 0;");
        fault(1, 15, "ward 1;street 0;");
    }

    /** "4 the second WARD of a 'street', if both are one, or it is told ahead, either way" */
    private static void streetsToldAhead() {
        String eight = "ward 1;".repeat(8);
        for (int w = 0; w < 8; w++) {
            fault(4, 65, eight + "street " + w + " " + w + ";");
            fault(4, 65, eight + "street " + w + " " + w);
        }
        fault(4, 68, eight + "street 0000 0 ;");
        List<String> all = new ArrayList<>();
        StringBuilder text = new StringBuilder(eight);
        for (int a = 0; a < 8; a++) {
            for (int b = a + 1; b < 8; b++) {
                String line = (a + b) % 2 == 0 ? "street " + a + " " + b + ";" : "street " + b + " " + a + ";";
                text.append(line);
                all.add(a + " " + b);
            }
        }
        good(text.toString());
        int length = text.length();
        for (String one : all) {
            String back = one.charAt(2) + " " + one.charAt(0);
            fault(4, length + 9, text + "street " + one + ";");
            fault(4, length + 9, text + "street " + back + ";");
        }
        CockTower x = Check.tower(text.toString());
        for (int w = 0; w < 8; w++) {
            int ward = w;
            Check.due(255 & ~(1 << w), () -> x.ward(ward, 1));
        }
        // What an earlier text told is not told ahead.
        CockTower y = new CockTower();
        Check.due(0, () -> Check.tell(y, "ward 1;ward 1;street 0 1;"));
        Check.due(0, () -> Check.tell(y, "ward 1;ward 1;street 1 0;"));
        Check.due(4, () -> Check.tell(y, "ward 1;ward 1;street 1 0;street 0 1;"));
        Check.due(0, () -> Check.tell(y, "ward 1;ward 1;street 0 1;"));
    }

    /** "5 a second 'ground', 'cost', 'wind', 'leans', 'gives', 'believes'" */
    private static void secondLines() {
        String[] lines = {"ground 2;", "cost 1;", "wind 1;", "leans 1;", "gives 1;", "believes 1;"};
        StringBuilder all = new StringBuilder();
        for (String line : lines) {
            all.append(line);
        }
        good(all.toString());
        for (String line : lines) {
            String word = line.substring(0, line.indexOf(' '));
            fault(5, line.length(), line + line);
            fault(5, line.length(), line + word);
            fault(5, line.length(), line + word + " 99999;");
            fault(5, line.length(), line + word + ";");
            fault(5, all.length(), all + line);
            fault(5, all.length() + 1, all + "\n" + word + " foo;");
            CockTower x = new CockTower();
            Check.due(0, () -> Check.tell(x, line));
            Check.due(5, () -> Check.tell(x, line + line));
            Check.due(0, () -> Check.tell(x, line));
        }
        // Without any value but 0 they are told all the same.
        fault(5, 7, "wind 0;wind 0;");
        fault(5, 8, "leans 0;leans 0;");
        fault(5, 9, "ground 9;ground 9;");
        fault(5, 8, "cost 10;cost 10;");
        good("hung 1 0;hung 1 0;plan 1 0;plan 1 0;ward 1;ward 1;ward 1;street 0 1;street 0 2;");
    }

    /** "FAULTS, the first along the text" */
    private static void firstAlongTheText() {
        String[] wrong = {"x;", "ward 100;", "leans foo;", "street 0 0;", "cost 1;"};
        int[] faults = {1, 2, 3, 4, 5};
        int[] places = {0, 5, 6, 9, 0};
        String ahead = "ward 1;cost 1;";
        for (int i = 0; i < wrong.length; i++) {
            for (int j = 0; j < wrong.length; j++) {
                fault(faults[i], 14 + places[i], ahead + wrong[i] + wrong[j]);
            }
        }
        fault(2, 5, "hung 0 10");
        fault(2, 7, "hung 1 10");
        fault(3, 7, "street 0 x");
        fault(1, 16, "ward 1;street 0 x;street 0 0;");
    }

    /** "of one TOKEN the least" */
    private static void leastOfOneToken() {
        // A word that is no VALUE, and the first of an EXPR within 6 others.
        fault(2, 12, "leans ((((((faith))))));");
        fault(3, 11, "leans (((((faith)))));");
        // A second line's word, where no line can begin.
        fault(1, 14, "cost 1;ground cost;");
        fault(1, 7, "cost 1 cost 1;");
        // The word of a 17th course or a 9th ward, where none can stand.
        fault(1, 149, "hung 1 0;".repeat(16) + "cost hung;");
        fault(1, 61, "ward 1;".repeat(8) + "cost ward;");
        // A seventh 'not' where a PART must stand is no VALUE.
        fault(3, 32, "leans not not not not not not 1+not 1;");
    }

    /** "0, or the FAULT (all stays)": by each kind of fault. */
    private static void faultLeavesAll() {
        String[] wrong = {"ward 2;x", "ward 2;ward 100;", "ward 2;leans foo;", "ward 2;street 0 0;", "cost 2;ward 2;cost 2;"};
        for (int i = 0; i < wrong.length; i++) {
            String text = wrong[i];
            int kind = i + 1;
            CockTower x = Check.tower("ward 50;hung 2 3;plan 4 5;ground 3;cost 4;wind 6;leans 1;gives 2;believes 3;");
            Check.part("all stays behind [" + text + "]");
            x.days(1);
            x.see(3, 4);
            x.image();
            x.give(5);
            String was = Check.told(x);
            Check.due(kind, () -> Check.tell(x, text));
            Check.due(was, () -> Check.told(x));
            Check.due(1, () -> x.count(19));
            Check.due(1, x::undo);
            Check.due(true, x::restore);
            Check.due(1, () -> x.count(16));
        }
    }
}
