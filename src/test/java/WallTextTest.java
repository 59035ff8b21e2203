import java.util.Set;

/** The text of a wall: each bound of its form from both sides, and the fault where it is passed. */
public final class WallTextTest extends Bench {
    private static final String GREATEST = ";lAAAAAA;lAAAAAA;lAAAAAA;lAAAAAA";
    private static final String DIGITS = "0123456789";

    /** A number of a clause: its letter, its bounds, what it is without. */
    private record Item(String clause, char letter, int least, int most, int without) {
        /** All ahead of the number; a sort has to be told, too. */
        String ahead() {
            return (clause.equals("s") ? "s" : "s;" + clause) + letter;
        }

        int askedOf(WarmWall x) {
            switch (clause) {
                case "s":
                    return x.stone(0, "thg".indexOf(letter));
                case "n":
                    return x.sleeper(0, "wf".indexOf(letter));
                default:
                    return letter == 'r' ? x.oven(0, 0) / 10
                            : letter == 'c' ? x.oven(0, 0) % 10 : x.oven(0, "?fuh".indexOf(letter));
            }
        }
    }

    private static final Item[] ITEMS = {
        new Item("s", 't', 0, 9, 3), new Item("s", 'h', 1, 99, 60), new Item("s", 'g', 0, 10, 3),
        new Item("o", 'r', 0, 3, 0), new Item("o", 'c', 0, 5, 0), new Item("o", 'f', 0, 23, 4),
        new Item("o", 'u', 0, 23, 7), new Item("o", 'h', 0, 20, 8),
        new Item("n", 'w', 0, 99, 5), new Item("n", 'f', 0, 9, 0)
    };

    public static void main(String[] args) {
        howManyOfEach();
        allFullAtOnce();
        clausesInAnyOrder();
        lettersOfARow();
        rowsAlike();
        numbersWithin();
        numbersWithout();
        eachLetterOnce();
        noDigit();
        sortsTold();
        ovensInTheWall();
        signsOfClauses();
        signsOfItems();
        blanks();
        endsTooEarly();
        theFirstFault();
        close("WallTextTest");
    }

    private static void dueCount(String text, int what, int want) {
        due("count(" + what + ") of " + text, wall(text).count(what), want);
    }

    private static void howManyOfEach() {
        about("s: 1 .. 4");
        dueEarly(0, "lA");
        dueEarly(0, "lA;o;n");
        dueCount("s;lA", 2, 1);
        dueCount("s;s;s;s;lA", 2, 4);
        dueWrong(0, "s;s;s;s;lA;", "s");
        dueWrong(0, "s;s;s;s; ", "st3;lA");
        about("l: 1 .. 4");
        dueEarly(0, "s");
        dueEarly(0, "s;o;n");
        dueCount("s;lA", 0, 1);
        dueCount("s;lA;lA;lA;lA", 0, 4);
        dueWrong(0, "s;lA;lA;lA;lA;", "l");
        dueWrong(0, "s;lA;lA;lA;lA; ", "lA");
        about("o: none to 3");
        dueCount("s;lA", 3, 0);
        dueCount("s;lA;o;o;o", 3, 3);
        dueWrong(0, "s;lA;o;o;o;", "o");
        dueWrong(0, "o;o;o; ", "oh3;s;lA");
        about("n: none to 5");
        dueCount("s;lA", 4, 0);
        dueCount("s;lA;n;n;n;n;n", 4, 5);
        dueWrong(0, "s;lA;n;n;n;n;n;", "n");
        dueWrong(0, "n;n;n;n;n; ", "nw3;s;lA");
    }

    private static void allFullAtOnce() {
        about("each kind is full by itself");
        String full = "s;s;s;s;o;o;o;n;n;n;n;n;lABCD;lABCD;lABCD;lABCD";
        int[] counts = {4, 4, 4, 3, 5};
        for (int what = 0; what < counts.length; what++) {
            dueCount(full, what, counts[what]);
        }
        for (String more : new String[] {"s", "l", "o", "n"}) {
            dueWrong(0, full + ";", more);
        }
    }

    private static void clausesInAnyOrder() {
        about("CLAUSES in any order");
        WarmWall x = wall("nw1;lBA;oh2;st4;lAB;nw3;oh5;st6");
        due("the first sort told", x.stone(0, 0), 4);
        due("the second sort told", x.stone(1, 0), 6);
        due("the first oven told", x.oven(0, 3), 2);
        due("the second oven told", x.oven(1, 3), 5);
        due("the first sleeper told", x.sleeper(0, 0), 1);
        due("the second sleeper told", x.sleeper(1, 0), 3);
        due("the first row told is above", x.cell(0, 0), 1);
        due("A is the first sort told", x.cell(1, 0), 0);
        due("the second row told", x.cell(10, 0), 0);
    }

    private static void lettersOfARow() {
        about("letters A .. D, 1 .. 6");
        dueEarly(0, "s;l");
        dueEarly(0, "s;l ");
        dueWrong(0, "s;l", ";lA");
        dueWrong(0, "s;l ", ";lA");
        String letters = "";
        for (int columns = 1; columns <= 6; columns++) {
            letters += "ABCDAB".charAt(columns - 1);
            WarmWall x = wall("s;s;s;s;l" + letters);
            due("COLUMNS of " + letters, x.count(1), columns);
            due("the last SORT of " + letters, x.cell(columns - 1, 0), (columns - 1) % 4);
        }
        for (String seventh : new String[] {"A", "B", "C", "D", "E"}) {
            dueWrong(0, "s;s;s;s;lABCDAB", seventh);
            dueWrong(0, "s;s;s;s;lABCDAB;lAAAAAA ", seventh);
        }
        dueWrong(0, "s;l", "@");
        dueWrong(0, "s;l", "E");
        dueWrong(0, "s;l", "a");
        dueWrong(0, "s;l", "1");
    }

    private static void rowsAlike() {
        about("all ROWS have as many");
        String six = "AAAAAA";
        for (int first = 1; first <= 6; first++) {
            for (int other = 1; other <= 6; other++) {
                String two = "s;l" + six.substring(6 - first) + ";l" + six.substring(6 - other);
                dueFault(0, two, first == other ? NONE : two.length());
            }
        }
        dueGood(0, "s;lAA;lAA;lAA;lAA");
        dueEarly(0, "s;lAA;lAA;lAA;lA");
        dueEarly(0, "s;lAA;lAA;lA;lAA");
        dueEarly(0, "s;lA;lAA;lAA;lAA");
        dueEarly(0, "lA;lAA;s");
    }

    private static void numbersWithin() {
        for (Item item : ITEMS) {
            about("bounds of " + item.letter + " of " + item.clause);
            for (int number = 0; number <= 99; number++) {
                String two = "" + (char) ('0' + number / 10) + (char) ('0' + number % 10);
                dueNumber(item, two, number);
                if (number < 10) {
                    dueNumber(item, "" + number, number);
                }
                // the third digit is wrong itself, whatever stands ahead of it
                dueWrong(0, item.ahead() + two, "0" + GREATEST);
                dueWrong(0, item.ahead() + two, "9");
            }
        }
    }

    private static void dueNumber(Item item, String digits, int number) {
        if (number >= item.least && number <= item.most) {
            due(digits + " told", item.askedOf(wall(item.ahead() + digits + GREATEST)), number);
            return;
        }
        int last = digits.length() - 1;
        dueWrong(0, item.ahead() + digits.substring(0, last), digits.substring(last) + GREATEST);
        dueWrong(0, item.ahead() + digits.substring(0, last), digits.substring(last) + " " + GREATEST);
    }

    private static void numbersWithout() {
        about("without");
        WarmWall none = wall("s;o;n" + GREATEST);
        for (Item item : ITEMS) {
            due(item.letter + " of " + item.clause, item.askedOf(none), item.without);
        }
        for (Item told : ITEMS) {
            WarmWall x = wall(told.ahead() + "1" + (told.clause.equals("o") ? ";n" : ";o;n") + GREATEST);
            for (Item item : ITEMS) {
                // a second sleeper is not asked, nor the second of two sorts
                boolean isOther = item.letter != told.letter || !item.clause.equals(told.clause);
                due(item.letter + " of " + item.clause + " beside " + told.ahead(), item.askedOf(x),
                        isOther ? item.without : 1);
            }
        }
    }

    private static void eachLetterOnce() {
        about("a letter, each once at most in a CLAUSE");
        String[] full = {"st1h2g3", "or0c0f1u2h3", "nw1f2"};
        String[] again = {"thg", "rcfuh", "wf"};
        for (int kind = 0; kind < full.length; kind++) {
            for (int k = 0; k < again[kind].length(); k++) {
                char letter = again[kind].charAt(k);
                String first = "s;lA;" + full[kind].charAt(0) + letter + "1";
                dueWrong(0, first, letter + "2");
                dueWrong(0, first + " ", "" + letter);
                dueWrong(0, "s;lA;" + full[kind], letter + "1");
            }
            dueGood(0, "s;lA;" + full[kind] + ";" + full[kind]);
        }
        for (String order : new String[] {"t1h2g3", "t1g3h2", "h2t1g3", "h2g3t1", "g3t1h2", "g3h2t1"}) {
            WarmWall x = wall("s" + order + ";lA;oh5u4f3c0r0;nf2w1");
            for (int what = 0; what < 3; what++) {
                due("stone(0, " + what + ") of " + order, x.stone(0, what), what + 1);
                due("oven(0, " + (what + 1) + ")", x.oven(0, what + 1), what + 3);
            }
            due("sleeper(0, 0)", x.sleeper(0, 0), 1);
            due("sleeper(0, 1)", x.sleeper(0, 1), 2);
        }
    }

    private static void noDigit() {
        about("one or two digits");
        for (Item item : ITEMS) {
            dueEarly(0, item.ahead());
            dueEarly(0, item.ahead() + " ");
            for (String wrong : new String[] {";", "-1", "+1", item.letter + "1", "x", "A"}) {
                dueWrong(0, item.ahead(), wrong);
            }
        }
    }

    private static void sortsTold() {
        about("a letter of a SORT that is not told");
        for (int told = 1; told <= 4; told++) {
            for (int letter = 0; letter < 4; letter++) {
                String row = "l" + (char) ('A' + letter);
                String behind = "s;".repeat(told) + row;
                dueFault(0, behind, letter < told ? NONE : behind.length());
                String ahead = row + ";s".repeat(told);
                dueFault(0, ahead, letter < told ? NONE : ahead.length());
            }
        }
        dueEarly(0, "s;s;s;lAAAAAA;lAAAAAA;lAAAAAA;lAAAAAD ");
        dueGood(0, "s;s;s;lAAAAAA;lAAAAAA;lAAAAAA;lAAAAAD;s");
    }

    private static void ovensInTheWall() {
        about("an OVEN outside of the WALL");
        for (int rows = 1; rows <= 4; rows++) {
            for (int columns = 1; columns <= 6; columns++) {
                String cells = "s" + (";l" + "A".repeat(columns)).repeat(rows);
                for (int row = 0; row < 4; row++) {
                    for (int column = 0; column < 6; column++) {
                        String text = cells + ";or" + row + "c" + column;
                        dueFault(0, text, row < rows && column < columns ? NONE : text.length());
                    }
                }
            }
        }
        dueEarly(0, "or1;s;lA");
        dueEarly(0, "oc1;s;lA");
        dueGood(0, "or1c1;s;lAA;lAA");
        dueEarly(0, "s;lAA;lAA;o;or1;or2");
        dueEarly(0, "s;lAA;lAA;oc2;o;o ");
    }

    private static void signsOfClauses() {
        about("the first byte at which no such TEXT can go on");
        dueEarly(0, "");
        dueSigns(0, "", "", "slon ");
        dueSigns(0, " ", "", "slon ");
        dueSigns(0, "s", "", "thg; ");
        dueSigns(0, "s;", "", "slon ");
        dueSigns(0, "s;l", "A", "BCD ");
        dueSigns(0, "s;l ", "A", "BCD ");
        dueSigns(0, "s;lA", "A ", "BCD;");
        dueSigns(0, "s;lA ", "A ", "BCD;");
        dueSigns(0, "s;lAAAAAA", " ", ";");
        dueSigns(0, "s;lA;", "son", "l ");
        dueSigns(0, "s;lA;s", " ", "thg;");
        dueSigns(0, "s;lA;o", " ", "rcfuh;");
        dueSigns(0, "s;lA;n", " ", "wf;");
    }

    private static void signsOfItems() {
        about("the first byte at which no such TEXT can go on");
        dueSigns(0, "s;lA;st", DIGITS, " ");
        dueSigns(0, "s;lA;st1", " ", "hg;");
        dueSigns(0, "s;lA;st1 ", " ", "hg;");
        dueSigns(0, "s;lA;sh", "123456789", " ");
        dueSigns(0, "s;lA;sh1", DIGITS + " ", "tg;");
        dueSigns(0, "s;lA;sh12", " ", "tg;");
        dueSigns(0, "s;lA;sg", DIGITS, " ");
        dueSigns(0, "s;lA;sg1", "0 ", "th;");
        dueSigns(0, "s;lA;st1g3h2", DIGITS + " ", ";");
        dueSigns(0, "s;lA;or", "0", "123 ");
        dueSigns(0, "s;lA;oc", "0", "12345 ");
        dueSigns(0, "s;lA;of", DIGITS, " ");
        dueSigns(0, "s;lA;of2", "0123 ", "rcuh;");
        dueSigns(0, "s;lA;of3", " ", "rcuh;");
        dueSigns(0, "s;lA;ou2", "0123 ", "rcfh;");
        dueSigns(0, "s;lA;oh1", DIGITS + " ", "rcfu;");
        dueSigns(0, "s;lA;oh2", "0 ", "rcfu;");
        dueSigns(0, "s;lA;nw9", DIGITS + " ", "f;");
        dueSigns(0, "s;lA;nw99", " ", "f;");
        dueSigns(0, "s;lA;nf0", DIGITS + " ", "w;");
        dueSigns(0, "s;lA;nf1", " ", "w;");
    }

    private static void blanks() {
        about("blanks between all signs, not within numbers");
        String text = "st3h42g10;lAB;lBA;s;or1c0f22u13h20;nw12f9";
        dueBlanks(0, text);
        WarmWall x = wall(blanksEverywhere(text));
        due("stone(0, 1)", x.stone(0, 1), 42);
        due("oven(0, 1)", x.oven(0, 1), 22);
        due("sleeper(0, 0)", x.sleeper(0, 0), 12);
        due("cell(11, 0)", x.cell(11, 0), 0);
        dueEarly(0, " ".repeat(160));
    }

    private static void endsTooEarly() {
        about("the length, if it ends too early");
        dueBeginnings(0, "st3h42g10;lAB;lBA;s;or1c0f22u3h20;nw12f9",
                Set.of(12, 19, 21, 23, 25, 27, 28, 30, 32, 33, 35, 37, 38));
    }

    private static void theFirstFault() {
        about("the first byte");
        dueWrong(0, "lAA;lA;", "x;s");
        dueWrong(0, "lB;s;sh", "0");
        dueWrong(0, "s;lA;or3;of2", "4;oh21");
        dueWrong(0, "s;s;s;s;", "s;lE");
        dueWrong(0, "st", "t1t1");
        dueWrong(0, "s;lA", "y:1");
        dueWrong(0, "", "y:1");
    }
}
