/** Each promise by answers worked out by hand: ordinary inputs, the edges that the document names, wrong inputs. */
public final class PromiseTest extends Bench {
    /** Gives all at once and takes no sun; an oven warms it the whole night long, 8 in its cell and 4 beside it. */
    private static final String NIGHT = "st0h99g10;of19u4h8;lAA";

    public static void main(String[] args) {
        newObject();
        feed();
        end();
        faultOfWalls();
        faultOfLaws();
        text();
        cell();
        stoneOvenSleeper();
        law();
        lawWorths();
        rain();
        warm();
        bake();
        hours();
        undo();
        anHour();
        ahead();
        air();
        comfort();
        choice();
        most();
        changed();
        laid();
        touched();
        fits();
        touch();
        without();
        coldest();
        frost();
        spread();
        timing();
        flow();
        giver();
        thaw();
        steady();
        image();
        count();
        close("PromiseTest");
    }

    private static void newObject() {
        about("1 a new object");
        WarmWall x = new WarmWall();
        int[] counts = {0, 0, 0, 0, 0, 0, 0, 0, NONE, 0, 0, 0};
        for (int what = 0; what < counts.length; what++) {
            due("count(" + what + ")", x.count(what), counts[what]);
        }
        dueThrow(x, 0, 0);
        int[] none = {
            x.stone(0, 0), x.oven(0, 0), x.sleeper(0, 0), x.hours(1), x.undo(), x.ahead(0, 1, 0), x.air(1),
            x.comfort(0, 0), x.choice(0), x.most(0), x.changed(0, 1, 0), x.touched(0, 0, 0), x.fits(0),
            x.touch(0, 0, 0), x.coldest(1, 0), x.frost(1), x.spread(0), x.timing(0, 0, 0), x.flow(0, 1, 1),
            x.giver(1, 0), x.thaw(0, 0), x.steady(0), x.image(), x.back()
        };
        for (int k = 0; k < none.length; k++) {
            due("answer " + k + " without a wall", none[k], NONE);
        }
        due("laid(0)", x.laid(0), HIDDEN);
        due("without(0, 1)", x.without(0, 1), HIDDEN);
        due("rain(0, true)", x.rain(0, true), false);
        due("warm(0, 0)", x.warm(0, 0), false);
        due("bake(0, 0, 0)", x.bake(0, 0, 0), false);
        due("law(-1)", x.law(-1), true);
        due("law(0)", x.law(0), false);
        due("NONE", NONE, -1);
        due("HIDDEN", HIDDEN, -1000000);
    }

    private static void feed() {
        about("2 feed");
        WarmWall x = new WarmWall();
        due("nothing but bytes of 0", x.feed(0, 0, 0, 0, 0), 0);
        due("s between bytes of 0", x.feed(0, 's' << 16, 0, 0, 0), 1);
        due("; l A in three numbers", x.feed(';', 0, 'l' << 8, 0, 'A' << 24), 4);
        due("the wall", x.text(0), 1);
        due("highest first", x.feed(0x733b6c41, 0, 0, 0, 0), 4);
        due("the wall", x.text(0), 1);
        due("bytes above 127", x.feed(-1, 0x80000080, 0, 0, 0), 6);
        due("end(0)", x.end(0), true);
        int all = 0x20202020;
        for (int bytes = 20; bytes <= 160; bytes += 20) {
            due("twenty more", x.feed(all, all, all, all, all), bytes);
        }
        due("a byte too many", x.feed(0, 0, 0, 0, 1), NONE);
        due("count(6)", x.count(6), 160);
        due("no byte more", x.feed(0, 0, 0, 0, 0), 160);
        due("end(159)", x.end(159), true);
        due("two where one is left", x.feed('s', 's', 0, 0, 0), NONE);
        due("count(6)", x.count(6), 159);
        due("the one", x.feed(0, 0, 's', 0, 0), 160);
    }

    private static void end() {
        about("3 end");
        WarmWall x = new WarmWall();
        due("end(0) of nothing", x.end(0), true);
        due("end(1) of nothing", x.end(1), false);
        put(x, "s;lAB");
        due("end(-1)", x.end(-1), false);
        due("end(6)", x.end(6), false);
        due("end(5)", x.end(5), true);
        due("count(6)", x.count(6), 5);
        due("fault(0)", x.fault(0), 5);
        due("end(4)", x.end(4), true);
        due("fault(0)", x.fault(0), NONE);
        due("more", put(x, "A"), 5);
        due("text(0)", x.text(0), 2);
    }

    private static void faultOfWalls() {
        about("4 fault of a wall");
        due("fault(2)", new WarmWall().fault(2), -2);
        due("fault(-1)", new WarmWall().fault(-1), -2);
        String[] good = {
            "s;lA", "lA;s", " s ; l A ", "lDA;s;s;s;s", "st9h99g10;lA", "st0h1g0;lA", "sg3h2t1;lA", "st00h01g05;lA",
            "s;lAAAAAA;lAAAAAA;lAAAAAA;lAAAAAA;or3c5", "s;o;o;o;n;n;n;n;n;lA", "s;lA;of23u23h20", "s;lA;nw99f9",
            "s t 3 h 4 ; l A B ; s"
        };
        for (String text : good) {
            dueFault(0, text, NONE);
        }
        for (String text : new String[] {"", " ", "s", "s;", "s;lA;", "lA", "s;l", "st", "s;lA;lAA", "s;lAA;lA", "s;lB",
            "s;lA;oc1", "s;lA;or1", "s;lA;o r", "s;lA;nw ", "lB;s", "o;n;s"}) {
            dueFault(0, text, text.length());
        }
        dueFault(0, "x", 0);
        dueFault(0, ";", 0);
        dueFault(0, " S;lA", 1);
        dueFault(0, "s,lA", 1);
        dueFault(0, "s;;lA", 2);
        dueFault(0, "s;l;lA", 3);
        dueFault(0, "s;lAE", 4);
        dueFault(0, "s;lE", 3);
        dueFault(0, "s;lAAAAAAA", 9);
        dueFault(0, "s;lAAAAAA A", 10);
        dueFault(0, "s;lA5", 4);
        dueFault(0, "st10;lA", 3);
        dueFault(0, "st123;lA", 4);
        dueFault(0, "sh0;lA", 2);
        dueFault(0, "sh00;lA", 3);
        dueFault(0, "sh000;lA", 4);
        dueFault(0, "sh100;lA", 4);
        dueFault(0, "sg11;lA", 3);
        dueFault(0, "st1t2;lA", 3);
        dueFault(0, "st1h2 t;lA", 6);
        dueFault(0, "st;lA", 2);
        dueFault(0, "st1 2;lA", 4);
        dueFault(0, "s1;lA", 1);
        dueFault(0, "sw1;lA", 1);
        dueFault(0, "s;s;s;s;s", 8);
        dueFault(0, "s;lA;lA;lA;lA;lA", 14);
        dueFault(0, "s;lA;o;o;o;o", 11);
        dueFault(0, "s;lA;n;n;n;n;n;n", 15);
        dueFault(0, "s;lA;or4", 7);
        dueFault(0, "s;lA;oc6", 7);
        dueFault(0, "s;lA;of24", 8);
        dueFault(0, "s;lA;ou24", 8);
        dueFault(0, "s;lA;oh21", 8);
        dueFault(0, "s;lA;ot1", 6);
        dueFault(0, "s;lA;nf10", 8);
        dueFault(0, "s;lA;nw100", 9);
        dueFault(0, "s;lA;nf1f1", 8);
        dueFault(0, "s;lA" + (char) 233, 4);
        dueFault(0, "s;lA\t", 4);
        dueFault(0, "y:1", 0);
        WarmWall x = wall("s;lAA");
        put(x, "s;l");
        due("fault(0)", x.fault(0), 3);
        due("the wall stays", x.count(1), 2);
        due("the tape stays", x.count(6), 3);
    }

    private static void faultOfLaws() {
        about("4 fault of a law");
        String[] good = {
            "y:1", " y : 9999 ", "y:h+r-c*d/s", "y:[h]", "y:h=1?2", "y:h<1|r>2&c=3?d", "y:!h=1?2", "y:(h=1)?2",
            "y:!(h=1|!r=2)&c=3?4", "y:[h+1]*2=3?4", "y:1;y:2", "y:h=1?1;y:2", "y:[[[[[[1]]]]]]", "y:!!!!!!h=1?1",
            "y:((((((h=1))))))?1", "y:!(!(!(1=1)))?1", "y:!(!([[1]]=1))?1", "y:h=[1]&[2]=3?[4]", "y:0000",
            "y:!h=1&[[[[[[2]]]]]]=2?[[[[[[1]]]]]]+[h]", "y:[[[[[[1]]]]]]=[h]?1"
        };
        for (String text : good) {
            dueFault(1, text, NONE);
        }
        for (String text : new String[] {"", "y", "y:", "y:h+", "y:h=", "y:h=1", "y:h=1?", "y:(h=1", "y:[1", "y:1;", "y:!",
            "y:h=1&", "y:h=1|", "y:(h=1)", "y:h*  "}) {
            dueFault(1, text, text.length());
        }
        dueFault(1, "x", 0);
        dueFault(1, "y1", 1);
        dueFault(1, "y:H", 2);
        dueFault(1, "y:-1", 2);
        dueFault(1, "y:12345", 6);
        dueFault(1, "y:00001", 6);
        dueFault(1, "y:1 2", 4);
        dueFault(1, "y:hh", 3);
        dueFault(1, "y:1?2", 3);
        dueFault(1, "y:h=1;y:2", 5);
        dueFault(1, "y:h=1=2", 5);
        dueFault(1, "y:h=1?2=3", 7);
        dueFault(1, "y:h=1?!h", 6);
        dueFault(1, "y:h=1?(2)", 6);
        dueFault(1, "y:h=1?2?3", 7);
        dueFault(1, "y:(h)", 4);
        dueFault(1, "y:(h=1))", 7);
        dueFault(1, "y:[h=1]", 4);
        dueFault(1, "y:[h)", 4);
        dueFault(1, "y:(h=1]", 6);
        dueFault(1, "y:h&r=1?2", 3);
        dueFault(1, "y:h=1&2?3", 7);
        dueFault(1, "y:1+(h)", 4);
        dueFault(1, "y:1+!h", 4);
        dueFault(1, "y:1;;y:1", 4);
        dueFault(1, "y:1;s", 4);
        dueFault(1, "y:[[[[[[[1]]]]]]]", 8);
        dueFault(1, "y:!!!!!!!h=1?1", 8);
        dueFault(1, "y:h=1?[[[[[[[1", 12);
        dueFault(1, "y:!!!!!!h=[1]?1", 10);
        dueFault(1, "y:(((((((h=1", 8);
        dueFault(1, "y:!(!(!([1]=1)))?1", 8);
        dueFault(1, "y:!(h=1)&!(!(!(!(h=1", 15);
        dueFault(1, "y:" + (char) 233, 2);
    }

    private static void text() {
        about("5 text");
        WarmWall x = new WarmWall();
        due("text(0) of nothing", x.text(0), NONE);
        put(x, "sh9t2;lAA;lAA;o;n");
        due("text(2)", x.text(2), NONE);
        due("text(-1)", x.text(-1), NONE);
        due("text(1)", x.text(1), NONE);
        due("count(6)", x.count(6), 17);
        due("text(0)", x.text(0), 4);
        due("count(6)", x.count(6), 0);
        for (int law = 0; law < 4; law++) {
            due("a law", tellLaw(x, "y:" + law), law);
        }
        due("count(8)", x.count(8), NONE);
        due("a fifth law", tellLaw(x, "y:5"), NONE);
        due("count(6)", x.count(6), 3);
        due("count(5)", x.count(5), 4);
        due("fault(1)", x.fault(1), NONE);
        x.end(0);
        x.law(2);
        x.rain(3, true);
        x.hours(5);
        x.touched(0, 0, 0);
        x.image();
        x.bake(0, 1, 2);
        x.warm(10, 3);
        put(x, "s;lC");
        due("text(0)", x.text(0), NONE);
        due("nothing changes: count(7)", x.count(7), 5);
        due("nothing changes: count(9)", x.count(9), 1);
        due("nothing changes: cell(10, 1)", x.cell(10, 1), 3);
        x.end(0);
        put(x, "s;lAA;lAA;o");
        due("text(0)", x.text(0), 4);
        due("the hour", x.count(7), 0);
        due("rain", x.count(11), 0);
        due("touched", x.count(9), 0);
        due("undone", x.undo(), NONE);
        due("back", x.back(), NONE);
        due("laws", x.count(5), 4);
        due("the law that holds", x.count(8), 2);
        due("warmth", x.cell(10, 1), 0);
        due("an oven's hours", x.oven(0, 1), 4);
    }

    private static void cell() {
        about("6 cell");
        WarmWall x = wall("st1h9g10;st2h50g5;lAB;lBA");
        due("sort", x.cell(0, 0), 0);
        due("sort", x.cell(1, 0), 1);
        due("sort", x.cell(10, 0), 1);
        due("sort", x.cell(11, 0), 0);
        x.warm(1, 30);
        due("warmth", x.cell(1, 1), 30);
        due("sun at 0", x.cell(1, 2), 0);
        // 15 given: 3 to each of two, 9 to the air
        due("felt", x.cell(1, 3), 9);
        due("it is told apart", x.count(7), 0);
        x.hours(8);
        due("sun at 8", x.cell(1, 2), 5);
        x.rain(8, true);
        due("rain is not asked", x.cell(1, 2), 5);
        x.hours(7);
        due("sun at 15", x.cell(1, 2), 5);
        x.hours(1);
        due("sun at 16", x.cell(1, 2), 0);
        int[][] wrong = {{2, 0}, {-1, 0}, {20, 0}, {12, 0}, {0, 4}, {0, -1}, {Integer.MIN_VALUE, 0}, {Integer.MAX_VALUE, 0}};
        for (int[] w : wrong) {
            dueThrow(x, w[0], w[1]);
        }
    }

    private static void stoneOvenSleeper() {
        about("7 stone");
        WarmWall x = wall("s;st1h2g4;lAB;lAA;o;or1c1f22u3h20;n;nw12f9");
        int[][] stones = {{3, 60, 3, NONE}, {1, 2, 4, NONE}};
        for (int what = -1; what < 4; what++) {
            for (int sort = -1; sort < 3; sort++) {
                int want = sort < 0 || sort > 1 || what < 0 ? NONE : stones[sort][what];
                due("stone(" + sort + ", " + what + ")", x.stone(sort, what), want);
            }
        }
        about("8 oven");
        int[][] ovens = {{0, 4, 7, 8, 0, NONE}, {11, 22, 3, 20, 1, NONE}};
        for (int what = -1; what < 6; what++) {
            for (int oven = -1; oven < 3; oven++) {
                int want = oven < 0 || oven > 1 || what < 0 ? NONE : ovens[oven][what];
                due("oven(" + oven + ", " + what + ")", x.oven(oven, what), want);
            }
        }
        for (int hour = 0; hour < 24; hour++) {
            due("oven(0, 4) at " + hour, x.oven(0, 4), hour >= 4 && hour < 7 ? 1 : 0);
            due("oven(1, 4) at " + hour, x.oven(1, 4), hour < 3 || hour >= 22 ? 1 : 0);
            x.hours(1);
        }
        x.bake(0, 0, 0);
        due("alike: never", x.oven(0, 4), 0);
        about("9 sleeper");
        int[][] sleepers = {{5, 0, NONE}, {12, 9, NONE}};
        for (int what = -1; what < 3; what++) {
            for (int sleeper = -1; sleeper < 3; sleeper++) {
                int want = sleeper < 0 || sleeper > 1 || what < 0 ? NONE : sleepers[sleeper][what];
                due("sleeper(" + sleeper + ", " + what + ")", x.sleeper(sleeper, what), want);
            }
        }
    }

    private static void law() {
        about("10 law");
        WarmWall x = wall("s;lA");
        due("law(0)", x.law(0), false);
        tellLaw(x, "y:7");
        tellLaw(x, "y:3");
        due("told, not held", x.cell(0, 2), 0);
        due("law(1)", x.law(1), true);
        due("sun", x.cell(0, 2), 3);
        due("law(2)", x.law(2), false);
        due("law(-2)", x.law(-2), false);
        due("count(8)", x.count(8), 1);
        due("law(0)", x.law(0), true);
        due("law(0) again", x.law(0), true);
        due("sun", x.cell(0, 2), 7);
        due("law(-1)", x.law(-1), true);
        due("count(8)", x.count(8), NONE);
        due("sun", x.cell(0, 2), 0);
    }

    private static void dueSun(String law, int hour, int cell, int want) {
        WarmWall x = wall("s;s;s;lABC;lCBA", law);
        pass(x, hour);
        due("sun by " + law + " on " + cell + " at " + hour, x.cell(cell, 2), want);
    }

    private static void lawWorths() {
        about("10 worth of a law");
        dueSun("y:8", 0, 0, 8);
        dueSun("y:10", 0, 0, 9);
        dueSun("y:0-5", 0, 0, 0);
        dueSun("y:h", 30, 0, 6);
        dueSun("y:d", 80, 0, 3);
        dueSun("y:d", 24 * 8, 0, 8);
        dueSun("y:r+1", 0, 12, 2);
        dueSun("y:c", 0, 12, 2);
        dueSun("y:s", 0, 2, 2);
        dueSun("y:s", 0, 12, 0);
        dueSun("y:2+3*2", 0, 0, 8);
        dueSun("y:[1+1]*3", 0, 0, 6);
        dueSun("y:9-3-2", 0, 0, 4);
        dueSun("y:9/2*2", 0, 0, 8);
        dueSun("y:[0-7]/2+9", 0, 0, 6);
        dueSun("y:5/0", 0, 0, 0);
        dueSun("y:3+5/0", 0, 0, 3);
        dueSun("y:5/[1-1]+2", 0, 0, 2);
        // held behind each sign: 9999 * 9999 is 1000000
        dueSun("y:9999*9999/9999/20", 0, 0, 5);
        dueSun("y:9999*9999*2/9999/20", 0, 0, 5);
        dueSun("y:[0-9999]*9999/9999/[0-20]", 0, 0, 5);
        dueSun("y:9999*9999+9999-9999*99-9999-99", 0, 0, 1);
        dueSun("y:0-9999*9999-9999+9999*99+9999+99+1+5", 0, 0, 5);
        dueSun("y:h=1?2", 0, 0, 0);
        dueSun("y:h=1?2", 1, 0, 2);
        dueSun("y:h<1?2;y:h<2?3;y:4", 0, 0, 2);
        dueSun("y:h<1?2;y:h<2?3;y:4", 1, 0, 3);
        dueSun("y:h<1?2;y:h<2?3;y:4", 2, 0, 4);
        dueSun("y:5;y:6", 0, 0, 5);
        dueSun("y:h>1?2", 1, 0, 0);
        dueSun("y:h>1?2", 2, 0, 2);
        dueSun("y:!h=1?2", 1, 0, 0);
        dueSun("y:!h=1?2", 0, 0, 2);
        dueSun("y:!!h=1?2", 1, 0, 2);
        // & binds more than |
        dueSun("y:1=1|1=1&1=2?7", 0, 0, 7);
        dueSun("y:(1=1|1=1)&1=2?7", 0, 0, 0);
        dueSun("y:1=2&1=1|1=1?7", 0, 0, 7);
        // ! takes its unit alone
        dueSun("y:!1=2&1=2?7", 0, 0, 0);
        dueSun("y:!(1=2&1=2)?7", 0, 0, 7);
        dueSun("y : ! ( h + 1 < r ) ? [ 2 + c ] * 2", 0, 11, 6);
    }

    private static void rain() {
        about("11 rain");
        WarmWall x = wall("st0h99g0;lA");
        due("rain(0, false)", x.rain(0, false), false);
        due("rain(24, true)", x.rain(24, true), false);
        due("rain(-1, true)", x.rain(-1, true), false);
        due("rain(23, true)", x.rain(23, true), true);
        due("rain(0, true)", x.rain(0, true), true);
        due("rain(0, true)", x.rain(0, true), false);
        due("count(11)", x.count(11), (1 << 23) + 1);
        x.warm(0, 5);
        due("2 less", x.ahead(0, 1, 0), 3);
        due("and lost", x.ahead(0, 1, 1), 0);
        due("one hour alone", x.ahead(0, 23, 0), 3);
        due("and another", x.ahead(0, 24, 0), 1);
        due("each day", x.ahead(0, 25, 0), 0);
        due("0 at least", x.ahead(0, 72, 0), 0);
        due("rain(0, false)", x.rain(0, false), true);
        due("none", x.ahead(0, 1, 0), 5);
        due("count(11)", x.count(11), 1 << 23);
    }

    private static void warm() {
        about("12 warm");
        WarmWall x = wall("sh9;sh20;lAB");
        due("warm(0, 9)", x.warm(0, 9), true);
        due("warm(0, 10)", x.warm(0, 10), false);
        due("warm(1, 10)", x.warm(1, 10), true);
        due("warm(1, 20)", x.warm(1, 20), true);
        due("warm(1, 21)", x.warm(1, 21), false);
        due("warm(1, -1)", x.warm(1, -1), false);
        due("warm(2, 0)", x.warm(2, 0), false);
        due("warm(-1, 0)", x.warm(-1, 0), false);
        due("cell(0, 1)", x.cell(0, 1), 9);
        due("cell(1, 1)", x.cell(1, 1), 20);
        due("warm(0, 0)", x.warm(0, 0), true);
        due("cell(0, 1)", x.cell(0, 1), 0);
    }

    private static void bake() {
        about("13 bake");
        WarmWall x = wall("s;lA;o;o");
        due("bake(1, 0, 23)", x.bake(1, 0, 23), true);
        due("bake(1, 23, 0)", x.bake(1, 23, 0), true);
        due("bake(2, 1, 2)", x.bake(2, 1, 2), false);
        due("bake(-1, 1, 2)", x.bake(-1, 1, 2), false);
        due("bake(1, 24, 2)", x.bake(1, 24, 2), false);
        due("bake(1, 1, 24)", x.bake(1, 1, 24), false);
        due("bake(1, -1, 2)", x.bake(1, -1, 2), false);
        due("bake(1, 1, -1)", x.bake(1, 1, -1), false);
        due("from", x.oven(1, 1), 23);
        due("until", x.oven(1, 2), 0);
        due("the other one", x.oven(0, 1), 4);
        due("bake(1, 5, 5)", x.bake(1, 5, 5), true);
        due("alike", x.oven(1, 1), 5);
    }

    private static void hours() {
        about("14 hours");
        WarmWall x = wall("st1h99g0;lA");
        due("hours(0)", x.hours(0), NONE);
        due("hours(73)", x.hours(73), NONE);
        due("hours(-1)", x.hours(-1), NONE);
        due("hours(9)", x.hours(9), 9);
        due("cell(0, 1)", x.cell(0, 1), 5);
        due("hours(72)", x.hours(72), 81);
        due("cell(0, 1)", x.cell(0, 1), 99);
        due("hours(1)", x.hours(1), 82);
    }

    private static void undo() {
        about("15 undo");
        WarmWall x = wall("st1h99g0;lA");
        due("undo()", x.undo(), NONE);
        x.hours(10);
        due("cell(0, 1)", x.cell(0, 1), 10);
        due("undo()", x.undo(), 9);
        due("cell(0, 1)", x.cell(0, 1), 5);
        x.hours(72);
        due("count(10)", x.count(10), 60);
        for (int hour = 80; hour >= 21; hour--) {
            due("undo()", x.undo(), hour);
        }
        due("undo() of the 61st", x.undo(), NONE);
        due("the hour", x.count(7), 21);
        due("cell(0, 1) as it was at 21", x.cell(0, 1), 40);
        x.rain(21, true);
        x.hours(1);
        due("undo()", x.undo(), 21);
        due("rain stays", x.count(11), 1 << 21);
    }

    private static void anHour() {
        about("16 an hour");
        WarmWall x = wall("st0h99g10;lAAA");
        x.warm(1, 40);
        due("a fourth to each beside it", x.ahead(0, 1, 0), 10);
        due("a fourth to each beside it", x.ahead(2, 1, 0), 10);
        due("it gave all", x.ahead(1, 1, 0), 0);
        due("the rest to the air", x.ahead(1, 1, 1), 20);
        due("the fourth is cut", x.ahead(1, 2, 0), 4);
        due("what is cut is felt", x.ahead(0, 2, 1), 8);
        x = wall("st0h99g3;lA");
        x.warm(0, 9);
        due("tenths are cut", x.ahead(0, 1, 0), 7);
        due("tenths are cut", x.ahead(0, 1, 1), 2);
        x = wall("st9h10g0;lA");
        due("above what it holds", x.ahead(0, 9, 0), 10);
        due("goes to the air", x.ahead(0, 9, 1), 35);
        x.rain(8, true);
        due("no sun in rain", x.ahead(0, 9, 0), 0);
        due("no sun in rain", x.ahead(0, 9, 1), 0);
        x = wall("st0h10g0;lAA;lAA;of0u2h9");
        due("heat", x.ahead(0, 1, 0), 9);
        due("half of it beside", x.ahead(1, 1, 0), 4);
        due("half of it beside", x.ahead(10, 1, 0), 4);
        due("not across", x.ahead(11, 1, 0), 0);
        due("above", x.ahead(0, 2, 1), 8);
        due("until", x.ahead(0, 3, 1), 0);
        x.rain(1, true);
        due("2 less before it goes to the air", x.ahead(0, 2, 1), 6);
        due("2 less", x.ahead(1, 2, 0), 6);
        x = wall("st0h99g0;lA;of23u1h5");
        due("through midnight", x.ahead(0, 1, 0), 5);
        due("through midnight", x.ahead(0, 23, 0), 5);
        due("through midnight", x.ahead(0, 25, 0), 15);
    }

    private static void ahead() {
        about("16 ahead");
        WarmWall x = wall("st1h99g0;lA");
        due("behind 9", x.ahead(0, 9, 0), 5);
        due("behind 72", x.ahead(0, 72, 0), 99);
        // 40 and 40 and 19 are held
        due("felt in the 64th", x.ahead(0, 64, 1), 5);
        due("felt in the 59th", x.ahead(0, 59, 1), 0);
        due("felt in the 60th", x.ahead(0, 60, 1), 1);
        due("n 0", x.ahead(0, 0, 0), NONE);
        due("n 73", x.ahead(0, 73, 0), NONE);
        due("what 2", x.ahead(0, 1, 2), NONE);
        due("what -1", x.ahead(0, 1, -1), NONE);
        due("cell 1", x.ahead(1, 1, 0), NONE);
        x.hours(9);
        due("from now", x.ahead(0, 1, 0), 10);
        due("it is apart", x.cell(0, 1), 5);
        due("it is apart", x.count(7), 9);
    }

    private static void air() {
        about("17 air");
        WarmWall x = wall("st0h99g10;lAAA");
        x.warm(1, 40);
        due("air(1)", x.air(1), 20);
        due("air(2)", x.air(2), 36);
        due("air(72)", x.air(72), 40);
        due("air(0)", x.air(0), NONE);
        due("air(73)", x.air(73), NONE);
    }

    private static void comfort() {
        about("18 comfort");
        WarmWall x = wall(NIGHT + ";n;nw99f9");
        due("comfort(0, 0)", x.comfort(0, 0), 6);
        due("comfort(0, 1)", x.comfort(0, 1), 3);
        due("fur", x.comfort(1, 1), 12);
        due("comfort(2, 0)", x.comfort(2, 0), NONE);
        due("comfort(-1, 0)", x.comfort(-1, 0), NONE);
        due("comfort(0, 2)", x.comfort(0, 2), NONE);
        due("comfort(0, 10)", x.comfort(0, 10), NONE);
        x.hours(20);
        due("this hour, too", x.comfort(0, 0), 6);
        x.warm(0, 0);
        due("this hour, too", x.comfort(0, 0), 0);
        x.hours(1);
        due("the night behind this one", x.comfort(0, 0), 6);
        x = wall("st0h99g10;of19u4h8;lA;n");
        due("alone", x.comfort(0, 0), 8);
        x.bake(0, 19, 3);
        due("nine hours", x.comfort(0, 0), 0);
        x.bake(0, 20, 5);
        due("from hour 20 on", x.comfort(0, 0), 0);
    }

    private static void choice() {
        about("19 choice");
        WarmWall x = wall(NIGHT + ";n;n;n");
        due("choice(0)", x.choice(0), 0);
        due("choice(1)", x.choice(1), 1);
        due("choice(2)", x.choice(2), NONE);
        due("choice(3)", x.choice(3), NONE);
        due("choice(-1)", x.choice(-1), NONE);
        x = wall("st0h99g10;of19u4h8r1c1;lAA;lAA;n;n;n;n;n");
        due("the warmest", x.choice(0), 11);
        due("of several the lowest", x.choice(1), 1);
        due("of several the lowest", x.choice(2), 10);
        due("the last", x.choice(3), 0);
        due("none is free", x.choice(4), NONE);
    }

    private static void most() {
        about("20 most");
        WarmWall x = wall(NIGHT + ";n;n;n");
        due("most(0)", x.most(0), 1);
        due("most(1)", x.most(1), 4);
        due("most(2)", x.most(2), NONE);
        due("most(-1)", x.most(-1), NONE);
        x = wall(NIGHT + ";nw6;nw3;nw9f5");
        due("most(0)", x.most(0), 2);
        due("the greatest of 3 and 6", x.most(1), 6);
        x = wall(NIGHT + ";nw6;nw3;nw7");
        due("two", x.most(0), 2);
        due("who", x.most(1), 3);
        x = wall(NIGHT + ";nw6;nw4;nw3");
        due("who", x.most(1), 6);
        x = wall(NIGHT + ";nw7;nw99f9");
        due("none", x.most(0), 0);
        due("none", x.most(1), 0);
        x = wall(NIGHT);
        due("no sleepers", x.most(0), 0);
        due("no sleepers", x.most(1), 0);
        x = wall(NIGHT + ";nw0;nw0;nw0;nw0;nw0");
        due("one in a cell", x.most(0), 2);
        due("the highest two", x.most(1), 24);
    }

    private static void changed() {
        about("21 changed");
        WarmWall x = wall("st0h10g10;st0h99g0;lBB");
        x.warm(0, 8);
        x.warm(1, 20);
        // the new stone at 1 holds 10: it gives them, 2 of them to 0
        due("which", x.changed(1, 1, 0), 10);
        due("how much", x.changed(1, 1, 1), 8);
        due("which", x.changed(0, 1, 0), 0);
        due("how much", x.changed(0, 1, 1), 6);
        due("nothing has changed", x.cell(1, 0), 1);
        due("nothing has changed", x.cell(1, 1), 20);
        due("all alike: the lowest cell and sort", x.changed(0, 9, 0), 0);
        due("all alike", x.changed(0, 9, 1), 0);
        due("cell 2", x.changed(2, 1, 0), NONE);
        due("n 0", x.changed(0, 0, 0), NONE);
        due("n 73", x.changed(0, 73, 0), NONE);
        due("what 2", x.changed(0, 1, 2), NONE);
        x = wall("st0h99g0;st0h99g10;lAB");
        x.warm(1, 20);
        due("what it is, too: of several the lowest", x.changed(1, 1, 0), 0);
        due("what it is, too", x.changed(1, 1, 1), 15);
        x = wall("st1h1g0;st1h1g0;lA");
        tellLaw(x, "y:s*4");
        x.law(0);
        due("the law asks for the new sort", x.changed(0, 1, 0), 1);
        due("the law asks for the new sort", x.changed(0, 1, 1), 3);
    }

    private static void laid() {
        about("22 laid");
        WarmWall x = wall(NIGHT + ";st0h99g0");
        x.warm(0, 50);
        due("laid(0)", x.laid(0), 11);
        due("laid(1)", x.laid(1), 3);
        due("laid(2)", x.laid(2), HIDDEN);
        due("laid(-1)", x.laid(-1), HIDDEN);
        due("nothing has changed", x.cell(0, 1), 50);
        x.hours(19);
        due("at the hour as it is", x.laid(1), 3);
        x.hours(1);
        due("without warmth", x.laid(1), 0);
        due("of several the least", x.laid(0), 11);
        x = wall("st0h99g0;st0h99g10;st0h99g9;of19u4h8;lAA");
        due("the best sort is the second one", x.laid(0), 22);
        due("and that much", x.laid(1), 3);
        x = wall("st0h99g0;lA;lA;lA");
        due("one digit for each cell", x.laid(0), 111);
        x = wall("s;s;s;lAAA;lAAA");
        due("six cells, three sorts", x.laid(0), 111111);
        due("too many cells", wall("s;lAAAA;lAAAA").laid(0), HIDDEN);
        due("too many sorts", wall("s;s;s;s;lA").laid(0), HIDDEN);
        // the oven at 1 overheats a stone that holds little, and beside it what gives is felt
        x = wall("st0h1g0;st0h99g10;oc1f19u5h8;lAAA");
        due("the lowest cell is the highest digit", x.laid(0), 111);
        due("how much", x.laid(1), 4);
    }

    private static void touched() {
        about("23 touched");
        WarmWall x = wall("s;lAA");
        due("n 48, v 99", x.touched(1, 48, 99), 1);
        due("n 49", x.touched(0, 49, 0), NONE);
        due("n -1", x.touched(0, -1, 0), NONE);
        due("v 100", x.touched(0, 0, 100), NONE);
        due("v -1", x.touched(0, 0, -1), NONE);
        due("cell 2", x.touched(2, 0, 0), NONE);
        for (int touch = 2; touch <= 20; touch++) {
            due("again", x.touched(0, 0, 0), touch);
        }
        due("a 21st", x.touched(0, 0, 0), NONE);
        due("count(9)", x.count(9), 20);
    }

    private static void fits() {
        about("24 fits");
        WarmWall x = wall("st1h99g0;st2h99g0;st2h7g0;lAA");
        due("nothing is touched", x.fits(0), 7);
        due("fits(2)", x.fits(2), NONE);
        x.touched(0, 8, 0);
        due("all alike", x.fits(0), 7);
        x.touched(0, 9, 10);
        due("one", x.fits(0), 2);
        due("another cell does not change it", x.fits(1), 0);
        x = wall("st1h99g0;st2h99g0;st2h7g0;lAA");
        x.touched(0, 9, 5);
        due("the other cell is as told", x.fits(1), 7);
        x = wall("st0h99g0;st0h7g0;st0h8g0;lA");
        x.warm(0, 8);
        x.touched(0, 0, 8);
        due("no more than it holds", x.fits(0), 5);
        x.touched(0, 48, 8);
        due("48 hours on", x.fits(0), 5);
        x.touched(0, 48, 7);
        due("none", x.fits(0), 0);
    }

    private static void touch() {
        about("25 touch");
        WarmWall x = wall("st1h99g0;st2h99g0;st1h99g0;lAA");
        due("all alike: the least", x.touch(1, 8, 0), 0);
        due("all alike", x.touch(1, 8, 1), 1);
        due("where and when", x.touch(1, 9, 0), 901);
        due("how many", x.touch(1, 9, 1), 2);
        due("the first of several", x.touch(1, 24, 0), 901);
        due("n 25", x.touch(0, 25, 0), NONE);
        due("n -1", x.touch(0, -1, 0), NONE);
        due("what 2", x.touch(0, 1, 2), NONE);
        due("cell 10", x.touch(10, 1, 0), NONE);
        x.touched(1, 9, 5);
        due("two fit, alike", x.touch(1, 24, 1), 1);
        x.touched(1, 9, 6);
        due("none fits", x.touch(1, 24, 0), NONE);
        due("none fits", x.touch(1, 24, 1), NONE);
        x = wall("st0h5g0;st0h9g0;st0h20g0;lA");
        x.warm(0, 5);
        due("alike", x.touch(0, 0, 1), 1);
        x = wall("st0h5g0;st0h9g0;st0h20g0;lAC");
        x.warm(1, 20);
        due("at once, by what they hold", x.touch(1, 0, 1), 3);
        due("at once, at the cell", x.touch(1, 24, 0), 1);
    }

    private static void without() {
        about("26 without");
        WarmWall x = wall("st0h99g10;lA;of0u2h8;of0u1h5");
        due("without(0, 1)", x.without(0, 1), 0);
        due("without(0, 2)", x.without(0, 2), 8);
        due("without(0, 3)", x.without(0, 3), 16);
        due("without(1, 3)", x.without(1, 3), 5);
        due("without(2, 3)", x.without(2, 3), HIDDEN);
        due("without(-1, 3)", x.without(-1, 3), HIDDEN);
        due("without(0, 0)", x.without(0, 0), HIDDEN);
        due("without(0, 73)", x.without(0, 73), HIDDEN);
        due("it burns on", x.oven(0, 2), 2);
        // 3 are felt where they are; 4 go to the four beside, which give nothing
        x = wall("st0h99g10;st0h99g0;lBBB;lBAB;lBBB;or1c1f0u1h3;or1c1f0u1h1");
        due("less is felt with it", x.without(1, 2), -3);
    }

    private static void coldest() {
        about("27 coldest");
        WarmWall x = wall("st0h99g10;lAA;of1u2h8");
        x.warm(0, 40);
        // 40 -> 10 -> 2 and 8 and 4 -> less -> ...
        due("coldest(1, 0)", x.coldest(1, 0), 1);
        due("coldest(1, 1)", x.coldest(1, 1), 10);
        due("behind 24 hours nothing is left", x.coldest(24, 1), 0);
        due("of several the first", x.coldest(72, 0), x.coldest(24, 0));
        due("n 0", x.coldest(0, 0), NONE);
        due("n 73", x.coldest(73, 0), NONE);
        due("what 2", x.coldest(1, 2), NONE);
        x = wall("st0h99g0;lA");
        x.warm(0, 5);
        x.rain(2, true);
        due("which", x.coldest(24, 0), 3);
        due("how much", x.coldest(24, 1), 3);
        due("which", x.coldest(2, 0), 1);
    }

    private static void frost() {
        about("28 frost");
        WarmWall x = wall("st1h99g0;lAAA");
        x.warm(1, 1);
        x.warm(2, 3);
        due("frost(1)", x.frost(1), 1);
        x.rain(1, true);
        due("frost(1)", x.frost(1), 1);
        due("frost(2)", x.frost(2), 2);
        x.rain(0, true);
        due("frost(2)", x.frost(2), 3);
        due("frost(0)", x.frost(0), NONE);
        due("frost(73)", x.frost(73), NONE);
        x = wall("st1h99g0;lA;of0u1h1");
        due("now is not asked", x.frost(5), 0);
    }

    private static void spread() {
        about("29 spread");
        WarmWall x = wall("st1h99g0;st2h99g0;lAAB");
        due("spread(0)", x.spread(0), 0);
        due("spread(9)", x.spread(9), 5);
        x.warm(1, 7);
        due("spread(0)", x.spread(0), 7);
        due("spread(72)", x.spread(72), 0);
        due("spread(73)", x.spread(73), NONE);
        due("spread(-1)", x.spread(-1), NONE);
    }

    private static void timing() {
        about("30 timing");
        WarmWall x = wall("st0h99g10;of0u9h8;lA;n");
        due("timing(0, 0, 0)", x.timing(0, 0, 0), 19);
        due("timing(0, 0, 1)", x.timing(0, 0, 1), 8);
        due("nothing has changed", x.oven(0, 1), 0);
        x.bake(0, 20, 6);
        due("of several the lowest", x.timing(0, 0, 0), 18);
        x.bake(0, 1, 9);
        due("too short", x.timing(0, 0, 0), 0);
        due("too short", x.timing(0, 0, 1), 0);
        x.bake(0, 7, 7);
        due("never", x.timing(0, 0, 0), 0);
        due("timing(1, 0, 0)", x.timing(1, 0, 0), NONE);
        due("timing(-1, 0, 0)", x.timing(-1, 0, 0), NONE);
        due("timing(0, 1, 0)", x.timing(0, 1, 0), NONE);
        due("timing(0, 0, 2)", x.timing(0, 0, 2), NONE);
    }

    private static void flow() {
        about("31 flow");
        WarmWall x = wall("st0h99g10;lAAA;lAAA;of1u2h8");
        x.warm(1, 41);
        due("flow(1, 0, 1)", x.flow(1, 0, 1), 10);
        due("flow(1, 11, 1)", x.flow(1, 11, 1), 10);
        due("flow(0, 1, 1)", x.flow(0, 1, 1), 0);
        due("flow(0, 1, 2)", x.flow(0, 1, 2), 2);
        due("ovens not", x.flow(0, 10, 2), 2);
        due("what an oven gave, goes on", x.flow(0, 10, 3), 4);
        due("flow(0, 2, 1)", x.flow(0, 2, 1), NONE);
        due("flow(0, 11, 1)", x.flow(0, 11, 1), NONE);
        due("flow(0, 0, 1)", x.flow(0, 0, 1), NONE);
        due("flow(2, 10, 1)", x.flow(2, 10, 1), NONE);
        due("flow(2, 3, 1)", x.flow(2, 3, 1), NONE);
        due("flow(-1, 0, 1)", x.flow(-1, 0, 1), NONE);
        due("flow(0, 1, 0)", x.flow(0, 1, 0), NONE);
        due("flow(0, 1, 73)", x.flow(0, 1, 73), NONE);
    }

    private static void giver() {
        about("32 giver");
        WarmWall x = wall("st0h99g10;lAAA");
        due("all alike: the lowest", x.giver(9, 0), 0);
        due("nothing", x.giver(9, 1), 0);
        x.warm(1, 40);
        x.warm(2, 24);
        // 20 at 1, 18 at 2 at first
        due("giver(1, 0)", x.giver(1, 0), 1);
        due("giver(1, 1)", x.giver(1, 1), 20);
        // 4 at 1, 8 at 2 then
        due("in all", x.giver(2, 0), 2);
        due("in all", x.giver(2, 1), 26);
        due("giver(0, 0)", x.giver(0, 0), NONE);
        due("giver(73, 0)", x.giver(73, 0), NONE);
        due("giver(1, 2)", x.giver(1, 2), NONE);
    }

    private static void thaw() {
        about("33 thaw");
        WarmWall x = wall("st1h99g0;lA");
        due("thaw(0, 0)", x.thaw(0, 0), 0);
        due("thaw(0, 1)", x.thaw(0, 1), 9);
        due("thaw(0, 5)", x.thaw(0, 5), 9);
        due("thaw(0, 6)", x.thaw(0, 6), 10);
        due("thaw(0, 99)", x.thaw(0, 99), 60);
        due("thaw(0, 100)", x.thaw(0, 100), NONE);
        due("thaw(0, -1)", x.thaw(0, -1), NONE);
        due("thaw(1, 0)", x.thaw(1, 0), NONE);
        x = wall("st0h99g0;lA;of23u0h1");
        due("thaw(0, 3)", x.thaw(0, 3), 72);
        due("thaw(0, 4)", x.thaw(0, 4), NONE);
    }

    private static void dueSteady(WarmWall x, int fewer, int on) {
        due("steady(0)", x.steady(0), fewer);
        due("steady(1)", x.steady(1), on);
    }

    private static void steady() {
        about("34 steady");
        WarmWall x = wall("st0h99g0;lA");
        dueSteady(x, 0, 1);
        due("steady(2)", x.steady(2), NONE);
        due("steady(-1)", x.steady(-1), NONE);
        dueSteady(wall("st1h99g0;lA"), 3, 1);
        x = wall("st1h20g0;lA");
        tellLaw(x, "y:h=0?1");
        x.law(0);
        dueSteady(x, NONE, NONE);
        x.hours(1);
        dueSteady(x, 19, 1);
        x = wall("st1h99g10;lA");
        tellLaw(x, "y:h=23&d/2*2=d?5");
        x.law(0);
        dueSteady(x, 0, 2);
        x.hours(24);
        dueSteady(x, 0, 2);
        x.hours(1);
        dueSteady(x, 0, 1);
        x = wall("st1h99g10;lA");
        tellLaw(x, "y:h=23&d>2?5");
        x.law(0);
        // days 0 to 2 are alike already, whatever comes then
        dueSteady(x, 0, 1);
    }

    private static void image() {
        about("35 image");
        WarmWall x = wall("st1h99g0;lA;o");
        due("back()", x.back(), NONE);
        x.hours(9);
        due("image()", x.image(), 9);
        due("hours can be undone still", x.count(10), 9);
        x.hours(30);
        x.bake(0, 1, 2);
        x.rain(3, true);
        x.touched(0, 0, 0);
        about("36 back");
        due("back()", x.back(), 9);
        due("warmth", x.cell(0, 1), 29);
        due("the hour", x.count(7), 9);
        due("undo()", x.undo(), NONE);
        due("an oven's hours stay", x.oven(0, 1), 1);
        due("rain stays", x.count(11), 8);
        due("touched stays", x.count(9), 1);
        x.hours(2);
        due("back() again", x.back(), 9);
        x.hours(3);
        due("instead of the one ahead", x.image(), 12);
        x.hours(1);
        due("back()", x.back(), 12);
        put(x, "st1h99g0;lA;o");
        x.text(0);
        due("of another wall", x.back(), NONE);
    }

    private static void count() {
        about("37 count");
        WarmWall x = wall("s;s;lAAA;lABA;o;n;n;n");
        tellLaw(x, "y:1");
        put(x, "yy");
        x.law(0);
        x.hours(7);
        x.rain(23, true);
        x.touched(0, 0, 0);
        int[] counts = {2, 3, 2, 1, 3, 1, 2, 7, 0, 1, 7, 1 << 23};
        for (int what = 0; what < counts.length; what++) {
            due("count(" + what + ")", x.count(what), counts[what]);
        }
        due("count(-1)", x.count(-1), HIDDEN);
        due("count(12)", x.count(12), HIDDEN);
    }
}
