/** The tape and what becomes of it: each bound of promises 1 to 5 from both sides. */
public final class TapeTest extends Bench {
    public static void main(String[] args) {
        noWall();
        bytesLeftOut();
        placesInANumber();
        manyBytes();
        theTapeEnds();
        sortsOfTexts();
        textsOfAFullTape();
        askedAgain();
        cellsOfAWall();
        fourLaws();
        anotherWall();
        faultsAreNoTexts();
        close("TapeTest");
    }

    private static void noWall() {
        about("1: no WALL");
        WarmWall x = new WarmWall();
        int[] counts = {0, 0, 0, 0, 0, 0, 0, 0, NONE, 0, 0, 0};
        for (int what = 0; what < counts.length; what++) {
            due("count(" + what + ")", x.count(what), counts[what]);
        }
        due("count(-1)", x.count(-1), HIDDEN);
        due("count(12)", x.count(12), HIDDEN);
        due("fault(0)", x.fault(0), 0);
        due("fault(1)", x.fault(1), 0);
        for (int what = 0; what < 4; what++) {
            dueThrow(x, 0, what);
        }
    }

    private static void bytesLeftOut() {
        about("2: bytes of 0 are left out");
        due("nothing", new WarmWall().feed(0, 0, 0, 0, 0), 0);
        for (int sign = 1; sign < 256; sign++) {
            for (int shift = 0; shift < 32; shift += 8) {
                due("byte " + sign + " at " + shift, new WarmWall().feed(0, 0, sign << shift, 0, 0), 1);
            }
        }
        due("twenty of 255", new WarmWall().feed(-1, -1, -1, -1, -1), 20);
        due("twenty of 128", new WarmWall().feed(0x80808080, 0x80808080, 0x80808080, 0x80808080, 0x80808080), 20);
        due("two in a number", new WarmWall().feed(0x00ff0001, 0, 0, 0, 0), 2);
        due("MIN_VALUE", new WarmWall().feed(Integer.MIN_VALUE, 0, 0, 0, 0), 1);
        due("MAX_VALUE", new WarmWall().feed(Integer.MAX_VALUE, 0, 0, 0, 0), 4);
    }

    /** The three signs of a law stand at each place of twenty, with bytes of 0 around and between them. */
    private static void placesInANumber() {
        about("2: of each number the highest first");
        for (int apart = 1; apart < 10; apart++) {
            for (int first = 0; first + 2 * apart < 20; first++) {
                int[] words = new int[5];
                for (int k = 0; k < 3; k++) {
                    int place = first + k * apart;
                    words[place / 4] |= "y:7".charAt(k) << 24 - 8 * (place % 4);
                }
                WarmWall x = new WarmWall();
                due("three", x.feed(words[0], words[1], words[2], words[3], words[4]), 3);
                due("y:7 from " + first + ", " + apart + " apart", x.fault(1), NONE);
            }
        }
    }

    private static void manyBytes() {
        about("2: more than 160");
        for (int room = 0; room <= 20; room++) {
            WarmWall x = new WarmWall();
            due("all but " + room, put(x, "x".repeat(160 - room)), 160 - room);
            if (room < 20) {
                due("one too many for " + room, put(x, "y".repeat(room + 1)), NONE);
                due("count(6)", x.count(6), 160 - room);
                due("twenty too many", x.feed(-1, -1, -1, -1, -1), NONE);
                due("count(6)", x.count(6), 160 - room);
            }
            due("just as many", x.feed(0, 0, 0, 0, 0), 160 - room);
            due("the last ones", room == 0 ? 160 : put(x, "z".repeat(room)), 160);
            due("one more", x.feed(0, 0, 0, 0, 1), NONE);
            due("none more", x.feed(0, 0, 0, 0, 0), 160);
            due("count(6)", x.count(6), 160);
        }
    }

    private static void theTapeEnds() {
        about("3: its first n bytes alone");
        WarmWall x = new WarmWall();
        due("end(0) of nothing", x.end(0), true);
        due("end(1) of nothing", x.end(1), false);
        due("end(-1) of nothing", x.end(-1), false);
        String text = "s;lAB;st2;n";
        for (int n = 0; n <= text.length(); n++) {
            x = new WarmWall();
            put(x, text);
            due("end(-1)", x.end(-1), false);
            due("end past the end", x.end(text.length() + 1), false);
            due("end at the least", x.end(Integer.MIN_VALUE), false);
            due("end at the most", x.end(Integer.MAX_VALUE), false);
            due("count(6)", x.count(6), text.length());
            due("end(" + n + ")", x.end(n), true);
            due("count(6)", x.count(6), n);
            due("fault(0) as of the first " + n, x.fault(0), faultOf(0, text.substring(0, n)));
            due("end past the new end", x.end(n + 1), false);
            due("the rest again", n == text.length() ? n : put(x, text.substring(n)), text.length());
            due("text(0)", x.text(0), 2);
        }
    }

    private static void sortsOfTexts() {
        about("4: -2: no such sort");
        WarmWall x = new WarmWall();
        put(x, "s;lA");
        for (int sort : new int[] {-1, 2, 3, Integer.MIN_VALUE, Integer.MAX_VALUE}) {
            due("fault(" + sort + ")", x.fault(sort), -2);
            due("text(" + sort + ")", x.text(sort), NONE);
        }
        due("fault(0)", x.fault(0), NONE);
        due("fault(1)", x.fault(1), 0);
        due("count(6)", x.count(6), 4);
        due("text(0)", x.text(0), 1);
    }

    private static void textsOfAFullTape() {
        about("4: FAULT of a full TAPE");
        due("fault(0) of blanks", faultOf(0, " ".repeat(160)), 160);
        due("fault(1) of blanks", faultOf(1, " ".repeat(160)), 160);
        due("a wall at the very end", faultOf(0, " ".repeat(156) + "s;lA"), NONE);
        due("a wall that ends too early", faultOf(0, " ".repeat(157) + "s;l"), 160);
        due("wrong at the last byte", faultOf(0, " ".repeat(155) + "s;lAx"), 159);
        WarmWall x = wall(" ".repeat(156) + "s;lA");
        String ones = "y:0-71" + "+1".repeat(77);
        due("a law of 160 bytes", put(x, ones), 160);
        due("text(1)", x.text(1), 0);
        x.law(0);
        due("all of it counts", x.cell(0, 2), 6);
        due("another atom", faultOf(1, ones.substring(0, 159) + "h"), NONE);
        due("wrong at its last byte", faultOf(1, ones.substring(0, 159) + "+"), 159);
        due("too early", faultOf(1, ones.substring(0, 158) + "1+"), 160);
    }

    private static void askedAgain() {
        about("4: FAULT, asked again and of other TEXTS");
        WarmWall x = new WarmWall();
        String full = "s;s;s;s;o;o;o;n;n;n;n;n;lABCD;lABCD;lABCD;lABCD";
        put(x, full);
        for (int again = 0; again < 3; again++) {
            due("fault(0)", x.fault(0), NONE);
            due("fault(1)", x.fault(1), 0);
        }
        x.end(full.length() - 1);
        due("fault(0), a letter less", x.fault(0), full.length() - 1);
        put(x, "D");
        due("text(0)", x.text(0), 16);
        put(x, "st2;lAA;n");
        due("fault(0)", x.fault(0), NONE);
        due("the WALL stays", x.count(2), 4);
        x.end(0);
        put(x, "st1;lA");
        due("text(0)", x.text(0), 1);
        due("the later one", x.stone(0, 0), 1);
        due("SLEEPERS", x.count(4), 0);
        due("OVENS", x.count(3), 0);
        put(x, "y:5+d");
        due("fault(1)", x.fault(1), NONE);
        due("no LAW is told", x.count(5), 0);
        due("the later one", tellLaw(x, "y:7"), 0);
        x.law(0);
        due("SUN", x.cell(0, 2), 7);
        x.end(0);
        put(x, "y:9");
        due("fault(1)", x.fault(1), NONE);
        due("SUN", x.cell(0, 2), 7);
        x.end(0);
        put(x, "y:3;y:");
        due("fault(1)", x.fault(1), 6);
        due("the later one", tellLaw(x, "y:d+2"), 1);
        x.law(1);
        due("SUN", x.cell(0, 2), 2);
    }

    private static void cellsOfAWall() {
        about("5: how many CELLS");
        for (int rows = 1; rows <= 4; rows++) {
            for (int columns = 1; columns <= 6; columns++) {
                WarmWall x = new WarmWall();
                put(x, "s" + (";l" + "A".repeat(columns)).repeat(rows));
                due("text(0)", x.text(0), rows * columns);
                due("the TAPE is empty", x.count(6), 0);
                due("ROWS", x.count(0), rows);
                due("COLUMNS", x.count(1), columns);
            }
        }
    }

    private static void fourLaws() {
        about("5: a LAW: its number");
        WarmWall x = new WarmWall();
        for (int law = 0; law < 4; law++) {
            due("LAWS", x.count(5), law);
            due("text(1)", tellLaw(x, "y:" + (law + 5)), law);
            due("the TAPE is empty", x.count(6), 0);
            due("none holds", x.count(8), NONE);
        }
        about("5: there are four LAWS");
        due("a fifth", tellLaw(x, "y:9"), NONE);
        due("it has no fault", x.fault(1), NONE);
        due("the TAPE stays", x.count(6), 3);
        due("LAWS", x.count(5), 4);
        due("law(4)", x.law(4), false);
        x.end(0);
        put(x, "s;lA");
        due("a WALL can be told still", x.text(0), 1);
        for (int law = 0; law < 4; law++) {
            x.law(law);
            due("sun by law " + law, x.cell(0, 2), law + 5);
        }
        // a text that is no law any more does not spoil the one told last
        due("a fifth", tellLaw(x, "y:1"), NONE);
        x.law(3);
        due("sun by law 3", x.cell(0, 2), 8);
    }

    private static WarmWall busy() {
        WarmWall x = wall("st1h99g0;lAA;lAA;o;n", "y:2");
        tellLaw(x, "y:3");
        x.law(1);
        x.rain(0, true);
        x.rain(23, true);
        x.bake(0, 1, 2);
        x.hours(30);
        x.image();
        x.warm(0, 50);
        x.touched(0, 0, 50);
        return x;
    }

    private static void anotherWall() {
        about("5: the WALL (HOUR 0; RAIN, TOUCHED, IMAGE of another one are gone; LAWS, which holds, stay)");
        for (String other : new String[] {"st1h99g0;lAA;lAA;o;n", "st3;lA;o"}) {
            WarmWall x = busy();
            put(x, other);
            due("text(0)", x.text(0) > 0, true);
            due("HOUR", x.count(7), 0);
            due("LAWS", x.count(5), 2);
            due("the LAW that holds", x.count(8), 1);
            due("SUN", x.cell(0, 2), 3);
            due("TOUCHED", x.count(9), 0);
            due("fits", x.fits(0), 1);
            due("HOURS that can be UNDONE", x.count(10), 0);
            due("undo()", x.undo(), NONE);
            due("RAIN", x.count(11), 0);
            due("back()", x.back(), NONE);
            due("WARMTH", x.cell(0, 1), 0);
            due("FROM", x.oven(0, 1), 4);
            due("UNTIL", x.oven(0, 2), 7);
            due("an hour goes by", x.hours(1), 1);
            due("and is UNDONE", x.undo(), 0);
        }
        WarmWall x = busy();
        put(x, "s;lA");
        due("text(0)", x.text(0), 1);
        due("no such CELL any more", x.warm(1, 0), false);
        due("no such OVEN any more", x.oven(0, 0), NONE);
        due("no such SLEEPER any more", x.sleeper(0, 0), NONE);
        due("no such CELL any more", x.warm(10, 0), false);
    }

    private static void faultsAreNoTexts() {
        about("5: a FAULT");
        for (String wrong : new String[] {"", "s", "lA", "s;lB", "s;lA;lAA", "s;lA;oc1", "sh0;lA", "y:1", "s;lA;"}) {
            WarmWall x = busy();
            put(x, wrong);
            due("text(0) of " + wrong, x.text(0), NONE);
            due("the TAPE stays", x.count(6), wrong.length());
            due("the WALL stays", x.count(0), 2);
            due("the HOUR stays", x.count(7), 30);
            due("WARMTH stays", x.cell(0, 1), 50);
            due("RAIN stays", x.count(11), (1 << 23) + 1);
            due("TOUCHED stays", x.count(9), 1);
            due("the IMAGE stays", x.back(), 30);
        }
        for (String wrong : new String[] {"", "y", "y:", "y:h=1", "y:1;", "s;lA", "y:12345"}) {
            WarmWall x = busy();
            put(x, wrong);
            due("text(1) of " + wrong, x.text(1), NONE);
            due("the TAPE stays", x.count(6), wrong.length());
            due("LAWS", x.count(5), 2);
            due("law(2)", x.law(2), false);
            due("SUN", x.cell(0, 2), 3);
        }
    }
}
