import java.util.Set;

/** The text of a law: each bound of its form from both sides, the fault where it is passed, and what it is worth. */
public final class LawTextTest extends Bench {
    private static final String DIGITS = "0123456789";
    private static final String LETTERS = "hrcds";
    private static final String COMPARES = "=<>";
    private static final String JOINS = "+-*/";

    public static void main(String[] args) {
        clauses();
        numbers();
        nestings();
        nestingsSideBySide();
        signsOfSums();
        signsOfConditions();
        signsOfNestings();
        blanks();
        endsTooEarly();
        theFirstFault();
        numbersHeld();
        cutAndByNothing();
        leftToRight();
        comparisons();
        units();
        theFirstClause();
        letters();
        sunHeld();
        close("LawTextTest");
    }

    private static void clauses() {
        about("CLAUSES, one at least");
        dueEarly(1, "");
        dueEarly(1, " ");
        dueGood(1, "y:1");
        dueEarly(1, "y:1;");
        dueWrong(1, "y:1;", ";y:1");
        dueWrong(1, "", ";y:1");
        // as many as the tape has bytes for
        dueGood(1, "y:1" + ";y:1".repeat(39));
        dueEarly(1, "y:1" + ";y:1".repeat(39) + ";");
    }

    private static void numbers() {
        about("a number (1 to 4 digits), a fifth one itself");
        for (String ahead : new String[] {"y:", "y:h+", "y:h=", "y:h=1?", "y:[", "y:(", "y:!", "y:1;y:"}) {
            for (String four : new String[] {"0000", "0001", "1234", "9999"}) {
                dueWrong(1, ahead + four, "0");
                dueWrong(1, ahead + four, "5=h?1");
                dueWrong(1, ahead + four + " ", "5");
            }
        }
        dueSun("y:1", 1);
        dueSun("y:10-1", 9);
        dueSun("y:100-98", 2);
        dueSun("y:1000-997", 3);
        dueSun("y:9999-9995", 4);
        dueSun("y:0005", 5);
        dueSun("y:0", 0);
    }

    private static void nestings() {
        about("at most six of ( [ ! within one another");
        for (int units = 0; units <= 6; units++) {
            for (int way = 0; way < 1 << units; way++) {
                StringBuilder open = new StringBuilder("y:");
                StringBuilder close = new StringBuilder();
                for (int k = 0; k < units; k++) {
                    boolean isNot = (way >> k & 1) == 1;
                    open.append(isNot ? '!' : '(');
                    close.append(isNot ? "" : ")");
                }
                String ahead = open + "[".repeat(6 - units);
                String behind = "]".repeat(6 - units) + "=1" + close + "?1";
                dueGood(1, ahead + "h" + behind);
                dueWrong(1, ahead, "[h]" + behind);
                dueWrong(1, ahead, "!");
                dueWrong(1, ahead, "(h");
                // the last one may stand behind what is within the others, too
                if (units < 6) {
                    dueGood(1, ahead.substring(0, ahead.length() - 1) + "h+[h]" + behind.substring(1));
                    dueWrong(1, ahead + "h+", "[h]" + behind);
                    dueWrong(1, ahead + "h*", "[");
                }
            }
        }
        for (String ahead : new String[] {"y:h=", "y:h=1?", "y:h+", "y:h*", "y:1;y:", "y:h=1&h=", "y:h=1|h="}) {
            dueEarly(1, ahead + "[[[[[[");
            dueWrong(1, ahead + "[[[[[[", "[");
        }
        for (String ahead : new String[] {"y:h=1&", "y:h=1|"}) {
            dueGood(1, ahead + "!(!(!(h=1)))?1");
            dueWrong(1, ahead + "!(!(!(", "!");
            dueWrong(1, ahead + "!(!(!(", "(");
            dueWrong(1, ahead + "!(!(!(h=", "[");
        }
    }

    private static void nestingsSideBySide() {
        about("within one another alone");
        dueGood(1, "y:[1]+[1]+[1]+[1]+[1]+[1]+[1]+[1]");
        dueGood(1, "y:[1]*[1]*[1]*[1]*[1]*[1]*[1]*[1]");
        dueGood(1, "y:!h=1&!h=2&!h=3&!h=4&!h=5&!h=6&!h=7&!h=8?1");
        dueGood(1, "y:(h=1)|(h=2)|(h=3)|(h=4)|(h=5)|(h=6)|(h=7)|(h=8)?1");
        dueGood(1, "y:[[[[[[1]]]]]]+[[[[[[1]]]]]]");
        dueGood(1, "y:((((((h=1))))))&((((((h=1))))))?[[[[[[1]]]]]]");
        dueGood(1, "y:!!!!!!h=1&!!!!!!h=1|!!!!!!h=1?1");
        dueGood(1, "y:[[[[[[1]]]]]]=[[[[[[1]]]]]]?1;y:[[[[[[1]]]]]]");
        // a sum ahead of ! stands beside it, the sums behind it stand within it
        dueGood(1, "y:[h]=[1]&!!!!!!h=1?[1]");
        dueGood(1, "y:!!!!![h]=[1]?1");
        dueWrong(1, "y:!!!!!!h=", "[1]?1");
        dueGood(1, "y:!(((((h=1)))))&!h=[1]?1");
    }

    private static void signsOfSums() {
        about("the first byte at which no such TEXT can go on");
        String atoms = DIGITS + LETTERS;
        dueSigns(1, "", "", "y ");
        dueSigns(1, "y", "", ": ");
        dueSigns(1, "y:", atoms, "[!( ");
        dueSigns(1, "y: ", atoms, "[!( ");
        dueSigns(1, "y:1", DIGITS + " ", JOINS + COMPARES + ";");
        dueSigns(1, "y:123", DIGITS + " ", JOINS + COMPARES + ";");
        dueSigns(1, "y:1234", " ", JOINS + COMPARES + ";");
        dueSigns(1, "y:h", " ", JOINS + COMPARES + ";");
        dueSigns(1, "y:h ", " ", JOINS + COMPARES + ";");
        for (String join : JOINS.split("")) {
            dueSigns(1, "y:h" + join, atoms, "[ ");
            dueSigns(1, "y:h" + join + "r", " ", JOINS + COMPARES + ";");
        }
        dueSigns(1, "y:[", "", atoms + "[ ");
        dueSigns(1, "y:[h", "]", JOINS + " ");
        dueSigns(1, "y:[h]", " ", JOINS + COMPARES + ";");
        dueSigns(1, "y:1;", "", "y ");
    }

    private static void signsOfConditions() {
        about("the first byte at which no such TEXT can go on");
        String atoms = DIGITS + LETTERS;
        for (String compare : COMPARES.split("")) {
            dueSigns(1, "y:h" + compare, "", atoms + "[ ");
            dueSigns(1, "y:h" + compare + "1", "", DIGITS + JOINS + "&|? ");
            dueSigns(1, "y:h" + compare + "r", "", JOINS + "&|? ");
        }
        dueSigns(1, "y:h=[", "", atoms + "[ ");
        dueSigns(1, "y:h=r?", atoms, "[ ");
        dueSigns(1, "y:h=r?[", "", atoms + "[ ");
        dueSigns(1, "y:h=r?c", " ", JOINS + ";");
        dueSigns(1, "y:h=r?2", DIGITS + " ", JOINS + ";");
        for (String join : new String[] {"&", "|"}) {
            dueSigns(1, "y:h=r" + join, "", atoms + "[!( ");
            dueSigns(1, "y:h=r" + join + "c", "", JOINS + COMPARES + " ");
            dueSigns(1, "y:h=r" + join + "c<d", "", JOINS + "&|? ");
        }
    }

    private static void signsOfNestings() {
        about("the first byte at which no such TEXT can go on");
        String atoms = DIGITS + LETTERS;
        dueSigns(1, "y:!", "", atoms + "[!( ");
        dueSigns(1, "y:!h", "", JOINS + COMPARES + " ");
        dueSigns(1, "y:!h=r", "", JOINS + "&|? ");
        dueSigns(1, "y:(", "", atoms + "[!( ");
        dueSigns(1, "y:(h", "", JOINS + COMPARES + " ");
        dueSigns(1, "y:(h=r", "", JOINS + "&|) ");
        dueSigns(1, "y:(h=r)", "", "&|? ");
        dueSigns(1, "y:((h=r)", "", "&|) ");
        dueSigns(1, "y:!(h=r)", "", "&|? ");
        dueSigns(1, "y:([h", "", JOINS + "] ");
        dueSigns(1, "y:([h]", "", JOINS + COMPARES + " ");
        dueSigns(1, "y:!!!!!", "", atoms + "[!( ");
        dueSigns(1, "y:!!!!!!", "", atoms + " ");
        dueSigns(1, "y:(((((", "", atoms + "[!( ");
        dueSigns(1, "y:((((((", "", atoms + " ");
        dueSigns(1, "y:[[[[[", "", atoms + "[ ");
        dueSigns(1, "y:[[[[[[", "", atoms + " ");
    }

    private static void blanks() {
        about("blanks between all signs, not within numbers");
        dueBlanks(1, "y:!(h+12*[c-r]/34=105|s<2)&d>1?2-h;y:99");
        dueSun(blanksEverywhere("y:!(1+1=3)&[2]>1?12-5;y:1"), 7);
        dueEarly(1, " ".repeat(160));
    }

    private static void endsTooEarly() {
        about("the length, if it ends too early");
        dueBeginnings(1, "y:h+12*[c-r]/3=10&!(s<2|d>1)?2-h;y:[9]*h=[1]?8",
                Set.of(3, 5, 6, 12, 14, 30, 32, 38, 40));
    }

    private static void theFirstFault() {
        about("the first byte");
        dueWrong(1, "y:1", "?[[[[[[[");
        dueWrong(1, "y:[[[[[[", "[12345");
        dueWrong(1, "y:1234", "5;x");
        dueWrong(1, "y:h=1", ";y:1");
        dueWrong(1, "", "s;lA");
        dueWrong(1, "y:", "y:1");
        dueWrong(1, "y:h=r?2", "?3");
        dueWrong(1, "y:(h=r)?2", "=3");
    }

    // ---- what it is worth

    private static void dueSun(String law, int want) {
        due("sun by " + law, wall("s;lA", law).cell(0, 2), want);
    }

    /** A millionth of a million is told by what is left of it: a sum is worth itself less so much. */
    private static void numbersHeld() {
        about("numbers are within -1,000,000 .. 1,000,000 behind each sign");
        // 1000 * 1000 is within, 999 * 1001 is one less
        dueSun("y:1000*1000-999*1001", 1);
        dueSun("y:1000*1000+1-999*1001", 1);
        dueSun("y:1000*1000+9999-999*1001", 1);
        dueSun("y:1001*1000-999*1001", 1);
        dueSun("y:9999*9999-999*1001", 1);
        dueSun("y:9999*9999*9999*9999-999*1001", 1);
        dueSun("y:999*1001+1-999*1001", 1);
        dueSun("y:999*1001+2-999*1001", 1);
        dueSun("y:1000*1000-[0-1]-999*1001", 1);
        dueSun("y:1000*1000*2/2-500*1000+1", 1);
        dueSun("y:[1000*1000]*[1000*1000]-999*1001", 1);
        about("numbers are within -1,000,000 .. 1,000,000 behind each sign, from below");
        dueSun("y:0-1000*1000+999*1001+5", 4);
        dueSun("y:0-1000*1000-1+999*1001+5", 4);
        dueSun("y:0-1000*1000-9999+999*1001+5", 4);
        dueSun("y:[0-1001]*1000+999*1001+5", 4);
        dueSun("y:[0-9999]*9999+999*1001+5", 4);
        dueSun("y:[0-9999]*9999*9999+999*1001+5", 4);
        dueSun("y:0-999*1001-1+999*1001+5", 4);
        dueSun("y:0-999*1001-2+999*1001+5", 4);
        dueSun("y:[0-1000*1000]*[1000*1000]+999*1001+5", 4);
        dueSun("y:[0-1000*1000]*[0-1000*1000]-999*1001", 1);
        dueSun("y:[0-1000*1000]+[0-1000*1000]+999*1001+5", 4);
    }

    private static void cutAndByNothing() {
        about("/ cuts towards 0, by 0 gives 0");
        dueSun("y:7/2", 3);
        dueSun("y:8/2", 4);
        dueSun("y:1/2", 0);
        dueSun("y:[0-7]/2+9", 6);
        dueSun("y:7/[0-2]+9", 6);
        dueSun("y:[0-7]/[0-2]", 3);
        dueSun("y:[0-1]/2+9", 9);
        dueSun("y:5/0", 0);
        dueSun("y:0/0+1", 1);
        dueSun("y:[0-5]/0+2", 2);
        dueSun("y:5/[2-2]+3", 3);
        dueSun("y:5/0*7+4", 4);
        dueSun("y:5/h=0?6", 6);
    }

    private static void leftToRight() {
        about("TERMS with + or - between, ATOMS with * or / between");
        dueSun("y:9-3-2", 4);
        dueSun("y:9-3+2", 8);
        dueSun("y:9-[3+2]", 4);
        dueSun("y:8/2/2", 2);
        dueSun("y:8/[2/2]", 8);
        dueSun("y:9/2*2", 8);
        dueSun("y:9/[2*2]", 2);
        dueSun("y:1+2*3", 7);
        dueSun("y:[1+2]*3", 9);
        dueSun("y:9-8/2", 5);
        dueSun("y:2*3-4/4", 5);
    }

    private static void comparisons() {
        about("SUM, one of = < >, SUM");
        int[][] wants = {{0, 1, 0}, {1, 0, 0}, {0, 0, 1}};
        for (int left = 1; left <= 3; left++) {
            for (int sign = 0; sign < 3; sign++) {
                String law = "y:" + left + COMPARES.charAt(sign) + "2?8;y:3";
                dueSun(law, wants[left - 1][sign] == 1 ? 8 : 3);
            }
        }
        dueSun("y:0-1<0?8", 8);
        dueSun("y:9999*9999=1000*1000?8", 8);
        dueSun("y:9999*9999>1000*1000?8", 0);
        dueSun("y:999*1001<1000*1000?8", 8);
        dueSun("y:1+1=4/2?8", 8);
    }

    private static void units() {
        about("UNIT: ! UNIT, ( CONDITION ), or a comparison");
        dueSun("y:!1=1?8;y:3", 3);
        dueSun("y:!1=2?8;y:3", 8);
        dueSun("y:!!1=1?8;y:3", 8);
        dueSun("y:!!!!!!1=1?8;y:3", 8);
        dueSun("y:!!!!!1=1?8;y:3", 3);
        dueSun("y:(1=1)?8;y:3", 8);
        dueSun("y:!(1=1)?8;y:3", 3);
        String[] truths = {"1=2", "1=1"};
        for (int a = 0; a < 2; a++) {
            for (int b = 0; b < 2; b++) {
                dueSun("y:" + truths[a] + "&" + truths[b] + "?8;y:3", a + b == 2 ? 8 : 3);
                dueSun("y:" + truths[a] + "|" + truths[b] + "?8;y:3", a + b > 0 ? 8 : 3);
                for (int c = 0; c < 2; c++) {
                    String three = truths[a] + "|" + truths[b] + "&" + truths[c];
                    dueSun("y:" + three + "?8;y:3", a + b * c > 0 ? 8 : 3);
                    String turned = truths[a] + "&" + truths[b] + "|" + truths[c];
                    dueSun("y:" + turned + "?8;y:3", a * b + c > 0 ? 8 : 3);
                    String nested = "(" + truths[a] + "|" + truths[b] + ")&" + truths[c];
                    dueSun("y:" + nested + "?8;y:3", a + b > 0 && c > 0 ? 8 : 3);
                    String not = "!" + truths[a] + "&" + truths[b] + "|" + truths[c];
                    dueSun("y:" + not + "?8;y:3", (1 - a) * b + c > 0 ? 8 : 3);
                }
            }
        }
    }

    private static void theFirstClause() {
        about("the SUM of the first CLAUSE whose CONDITION holds (or has none), 0 without");
        dueSun("y:1=1?2;y:1=1?3", 2);
        dueSun("y:1=2?2;y:1=1?3", 3);
        dueSun("y:1=2?2;y:4;y:1=1?3", 4);
        dueSun("y:5;y:6", 5);
        dueSun("y:1=2?2;y:1=2?3;y:6", 6);
        dueSun("y:1=2?2;y:1=2?3", 0);
        dueSun("y:1=2?9", 0);
        dueSun("y:1=1?0;y:9", 0);
        dueSun("y:0;y:9", 0);
        dueSun("y:1=2?9" + ";y:1=2?9".repeat(18) + ";y:7", 7);
    }

    private static void letters() {
        about("letters: h r c d s");
        String cells = "s;s;s;s;lABCDAB;lBCDABC;lCDABCD;lDABCDA";
        for (int row = 0; row < 4; row++) {
            for (int column = 0; column < 6; column++) {
                WarmWall x = wall(cells, "y:r*2+1");
                tellLaw(x, "y:c+1");
                tellLaw(x, "y:s*2");
                tellLaw(x, "y:r=" + row + "&c=" + column + "&s=" + (row + column) % 4 + "?9");
                int cell = 10 * row + column;
                int[] wants = {row * 2 + 1, column + 1, (row + column) % 4 * 2, 9};
                for (int law = 0; law < wants.length; law++) {
                    x.law(law);
                    due("law " + law + " on cell " + cell, x.cell(cell, 2), wants[law]);
                }
            }
        }
        WarmWall x = wall("s;lA", "y:h=0?1;y:h=23?2;y:h>23?3;y:h<0?4;y:5");
        tellLaw(x, "y:d+1");
        for (int hour = 0; hour < 73; hour++) {
            x.law(0);
            due("by h at hour " + hour, x.cell(0, 2), hour % 24 == 0 ? 1 : hour % 24 == 23 ? 2 : 5);
            x.law(1);
            due("by d at hour " + hour, x.cell(0, 2), hour / 24 + 1);
            x.hours(1);
        }
        x = wall("s;lA", "y:d-298");
        pass(x, 24 * 300 - 1);
        due("by d, late", x.cell(0, 2), 1);
        x.hours(1);
        due("by d, a day later", x.cell(0, 2), 2);
    }

    private static void sunHeld() {
        about("SUN is held within 0 .. 9");
        String[] laws = {"y:0-9999*9999", "y:0-1", "y:0", "y:1", "y:8", "y:9", "y:10", "y:11", "y:9999*9999"};
        int[] wants = {0, 0, 0, 1, 8, 9, 9, 9, 9};
        for (int k = 0; k < laws.length; k++) {
            WarmWall x = wall("st2h99g0;lA", laws[k]);
            due("sun by " + laws[k], x.cell(0, 2), wants[k]);
            due("warmth by " + laws[k], x.ahead(0, 1, 0), 2 * wants[k]);
        }
    }
}
