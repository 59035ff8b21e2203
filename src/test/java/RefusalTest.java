import java.util.ArrayList;
import java.util.List;
import java.util.function.Supplier;

/**
 * What is refused answers as told and changes nothing; what is asked changes nothing either. Of two objects made alike one
 * is called, then both are asked for all that they have, down to what can be undone and to the tape.
 */
public final class RefusalTest extends Bench {
    private static final int LEAST = Integer.MIN_VALUE;
    private static final int MOST = Integer.MAX_VALUE;
    private static final int THROWN = 1000001;
    private static final int[] BELOW_ABOVE = {LEAST, -100, -1, MOST};

    private interface Call {
        int on(WarmWall x);
    }

    private static String scene = "";
    private static Supplier<WarmWall> maker = WarmWall::new;
    private static List<Integer> untouched = List.of();

    public static void main(String[] args) {
        noWall();
        tapes();
        texts();
        cellsStonesOvensSleepers();
        toldByHand();
        hoursAndImages();
        aheadAndAir();
        nights();
        otherStones();
        touches();
        courses();
        flows();
        questions();
        close("RefusalTest");
    }

    // ---- scenes

    private static void in(String name, Supplier<WarmWall> made) {
        scene = name;
        maker = made;
        untouched = allOf(made.get());
        due(name + " is made alike each time", untouched.equals(allOf(made.get())), true);
    }

    /** Nothing told but a law and the beginning of another. */
    private static WarmWall bare() {
        WarmWall x = new WarmWall();
        tellLaw(x, "y:h/2+1");
        x.law(0);
        put(x, "y:[h+2");
        return x;
    }

    /** Everything told, some hours gone by, some of it changed since. Two rows and two columns, 2 sorts, 2 ovens, 3 sleepers. */
    private static WarmWall busy() {
        WarmWall x = wall("st2h20g4;st1h50g10;lAB;lBA;o;or1c1f22u3h9;nw2;nw3f2;n", "y:h/3");
        tellLaw(x, "y:d+1");
        x.rain(5, true);
        x.rain(23, true);
        x.bake(1, 21, 4);
        x.hours(30);
        x.image();
        x.warm(1, 40);
        x.hours(7);
        x.touched(0, 2, x.ahead(0, 2, 0));
        x.touched(11, 3, x.ahead(11, 3, 0));
        put(x, "y:[h+2");
        return x;
    }

    /** Nothing more can be told: no byte, no law, nothing touched; no hour can be undone, there is no image. */
    private static WarmWall full() {
        WarmWall x = wall("st2h20g4;st1h50g10;lAB;lBA;o;n", "y:1");
        for (int law = 1; law < 4; law++) {
            tellLaw(x, "y:h/" + law);
        }
        for (int touch = 0; touch < 20; touch++) {
            x.touched(0, 0, 0);
        }
        put(x, "y:3" + " ".repeat(157));
        return x;
    }

    // ---- all that an object has

    private static int cellOf(WarmWall x, int cell, int what) {
        return cellThrows(x, cell, what) ? THROWN : x.cell(cell, what);
    }

    private static List<Integer> allOf(WarmWall x) {
        List<Integer> all = new ArrayList<>();
        for (int what = 0; what < 12; what++) {
            all.add(x.count(what));
        }
        for (int which = 0; which < 2; which++) {
            for (int what = 0; what < 5; what++) {
                all.add(x.stone(which, what));
                all.add(x.oven(which, what));
                all.add(x.sleeper(which, what));
            }
        }
        for (int cell : new int[] {0, 1, 10, 11}) {
            for (int what = 0; what < 4; what++) {
                all.add(cellOf(x, cell, what));
            }
            all.add(x.fits(cell));
            all.add(x.ahead(cell, 40, 0));
        }
        all.add(x.air(72));
        all.add(x.fault(0));
        all.add(x.fault(1));
        addWhatIsKept(x, all);
        return all;
    }

    /** The tape's bytes, the law that they tell, the hours to be undone, the image: to be asked at the end alone. */
    private static void addWhatIsKept(WarmWall x, List<Integer> all) {
        all.add(put(x, "]/3"));
        all.add(x.text(1));
        for (int law = 3; law >= 0; law--) {
            all.add(x.law(law) ? 1 : 0);
            all.add(cellOf(x, 0, 2));
        }
        for (int hour = 0; hour < 62; hour++) {
            all.add(x.undo());
            all.add(cellOf(x, hour % 2, 1));
        }
        all.add(x.back());
        all.add(cellOf(x, 0, 1));
        all.add(cellOf(x, 11, 1));
        all.add(x.count(10));
        all.add(x.count(11));
    }

    // ---- calls that leave all as it is

    private static void same(String call, int want, Call made) {
        WarmWall x = maker.get();
        due(call + " in " + scene, made.on(x), want);
        due(call + " in " + scene + " leaves all as it is", allOf(x).equals(untouched), true);
    }

    private static void asked(String call, Call made) {
        WarmWall x = maker.get();
        made.on(x);
        due(call + " in " + scene + " leaves all as it is", allOf(x).equals(untouched), true);
    }

    private static void noWall() {
        about("what is refused without a WALL");
        in("bare", RefusalTest::bare);
        same("cell(0, 0)", THROWN, x -> cellOf(x, 0, 0));
        same("stone(0, 0)", NONE, x -> x.stone(0, 0));
        same("oven(0, 0)", NONE, x -> x.oven(0, 0));
        same("sleeper(0, 0)", NONE, x -> x.sleeper(0, 0));
        same("rain(0, true)", 0, x -> x.rain(0, true) ? 1 : 0);
        same("rain(0, false)", 0, x -> x.rain(0, false) ? 1 : 0);
        same("warm(0, 0)", 0, x -> x.warm(0, 0) ? 1 : 0);
        same("bake(0, 0, 0)", 0, x -> x.bake(0, 0, 0) ? 1 : 0);
        same("hours(1)", NONE, x -> x.hours(1));
        same("undo()", NONE, WarmWall::undo);
        same("ahead(0, 1, 0)", NONE, x -> x.ahead(0, 1, 0));
        same("air(1)", NONE, x -> x.air(1));
        same("comfort(0, 0)", NONE, x -> x.comfort(0, 0));
        same("choice(0)", NONE, x -> x.choice(0));
        same("most(0)", NONE, x -> x.most(0));
        same("most(1)", NONE, x -> x.most(1));
        same("touched(0, 0, 0)", NONE, x -> x.touched(0, 0, 0));
        same("fits(0)", NONE, x -> x.fits(0));
        same("without(0, 1)", HIDDEN, x -> x.without(0, 1));
        same("frost(1)", NONE, x -> x.frost(1));
        same("spread(0)", NONE, x -> x.spread(0));
        same("flow(0, 1, 1)", NONE, x -> x.flow(0, 1, 1));
        same("thaw(0, 0)", NONE, x -> x.thaw(0, 0));
        for (int k = 0; k < 2; k++) {
            int what = k;
            same("changed(0, 1, " + what + ")", NONE, x -> x.changed(0, 1, what));
            same("laid(" + what + ")", HIDDEN, x -> x.laid(what));
            same("touch(0, 0, " + what + ")", NONE, x -> x.touch(0, 0, what));
            same("coldest(1, " + what + ")", NONE, x -> x.coldest(1, what));
            same("timing(0, 0, " + what + ")", NONE, x -> x.timing(0, 0, what));
            same("giver(1, " + what + ")", NONE, x -> x.giver(1, what));
            same("steady(" + what + ")", NONE, x -> x.steady(what));
        }
        same("image()", NONE, WarmWall::image);
        same("back()", NONE, WarmWall::back);
    }

    private static void tapes() {
        about("2 and 3: what is refused of the TAPE");
        in("full", RefusalTest::full);
        for (int word : new int[] {1, 'A' << 8, -1, LEAST, MOST}) {
            same("feed with " + word, NONE, x -> x.feed(0, 0, 0, 0, word));
            same("feed with " + word + " ahead", NONE, x -> x.feed(word, 0, 0, 0, 0));
        }
        same("feed of nothing", 160, x -> x.feed(0, 0, 0, 0, 0));
        same("end(161)", 0, x -> x.end(161) ? 1 : 0);
        same("end(160)", 1, x -> x.end(160) ? 1 : 0);
        in("busy", RefusalTest::busy);
        same("feed of nothing", 6, x -> x.feed(0, 0, 0, 0, 0));
        for (int n : new int[] {-1, 7, 160, LEAST, MOST}) {
            same("end(" + n + ")", 0, x -> x.end(n) ? 1 : 0);
        }
    }

    private static void texts() {
        about("4 and 5: what is refused of TEXTS");
        in("busy", RefusalTest::busy);
        for (int sort : new int[] {-1, 2, LEAST, MOST}) {
            same("fault(" + sort + ")", -2, x -> x.fault(sort));
            same("text(" + sort + ")", NONE, x -> x.text(sort));
        }
        same("text(0) of a FAULT", NONE, x -> x.text(0));
        same("text(1) of a FAULT", NONE, x -> x.text(1));
        same("fault(0)", 0, x -> x.fault(0));
        same("fault(1)", 6, x -> x.fault(1));
        in("full", RefusalTest::full);
        same("text(1), a fifth one", NONE, x -> x.text(1));
        same("text(0) of a FAULT", NONE, x -> x.text(0));
        same("fault(1) without one", NONE, x -> x.fault(1));
        for (String text : new String[] {"s;lB", "s;lA;lAA", "s;lA;or1", "lA", "s", "sh0;lA", "s;lA;n;n;n;n;n;n"}) {
            in("busy with " + text, () -> busyWith(text));
            same("text(0)", NONE, x -> x.text(0));
            same("text(1)", NONE, x -> x.text(1));
            same("fault(0)", faultOf(0, text), x -> x.fault(0));
        }
        in("busy with a wall", () -> busyWith("st9;lA"));
        same("fault(0) of a good wall", NONE, x -> x.fault(0));
        same("text(1) of a good wall", NONE, x -> x.text(1));
        in("busy with a law", () -> busyWith("y:9"));
        same("fault(1) of a good law", NONE, x -> x.fault(1));
        same("text(0) of a good law", NONE, x -> x.text(0));
        about("10: what is refused of LAWS");
        in("busy", RefusalTest::busy);
        for (int law : new int[] {-2, 2, 3, 4, LEAST, MOST}) {
            same("law(" + law + ")", 0, x -> x.law(law) ? 1 : 0);
        }
        same("law(0), that holds", 1, x -> x.law(0) ? 1 : 0);
        in("full", RefusalTest::full);
        for (int law : new int[] {-2, 4, 5, LEAST, MOST}) {
            same("law(" + law + ")", 0, x -> x.law(law) ? 1 : 0);
        }
    }

    private static WarmWall busyWith(String text) {
        WarmWall x = busy();
        x.end(0);
        put(x, text);
        return x;
    }

    private static void cellsStonesOvensSleepers() {
        about("6 to 9: what is refused of CELLS, SORTS, OVENS, SLEEPERS");
        in("busy", RefusalTest::busy);
        for (int cell : new int[] {-1, 2, 9, 12, 20, 100, LEAST, MOST}) {
            for (int what = 0; what < 4; what++) {
                int asked = what;
                same("cell(" + cell + ", " + what + ")", THROWN, x -> cellOf(x, cell, asked));
            }
        }
        for (int n : BELOW_ABOVE) {
            same("cell(0, " + n + ")", THROWN, x -> cellOf(x, 0, n));
            same("stone(" + n + ", 0)", NONE, x -> x.stone(n, 0));
            same("stone(0, " + n + ")", NONE, x -> x.stone(0, n));
            same("oven(" + n + ", 0)", NONE, x -> x.oven(n, 0));
            same("oven(0, " + n + ")", NONE, x -> x.oven(0, n));
            same("sleeper(" + n + ", 0)", NONE, x -> x.sleeper(n, 0));
            same("sleeper(0, " + n + ")", NONE, x -> x.sleeper(0, n));
        }
        same("cell(0, 4)", THROWN, x -> cellOf(x, 0, 4));
        same("stone(2, 0)", NONE, x -> x.stone(2, 0));
        same("stone(0, 3)", NONE, x -> x.stone(0, 3));
        same("oven(2, 0)", NONE, x -> x.oven(2, 0));
        same("oven(0, 5)", NONE, x -> x.oven(0, 5));
        same("sleeper(3, 0)", NONE, x -> x.sleeper(3, 0));
        same("sleeper(0, 2)", NONE, x -> x.sleeper(0, 2));
    }

    private static void toldByHand() {
        about("11: what is refused of RAIN");
        in("busy", RefusalTest::busy);
        for (int hour : new int[] {-1, 24, 28, 29, 55, LEAST, MOST}) {
            same("rain(" + hour + ", true)", 0, x -> x.rain(hour, true) ? 1 : 0);
            same("rain(" + hour + ", false)", 0, x -> x.rain(hour, false) ? 1 : 0);
        }
        same("rain(5, true), as it is", 0, x -> x.rain(5, true) ? 1 : 0);
        same("rain(23, true), as it is", 0, x -> x.rain(23, true) ? 1 : 0);
        same("rain(0, false), as it is", 0, x -> x.rain(0, false) ? 1 : 0);
        same("rain(22, false), as it is", 0, x -> x.rain(22, false) ? 1 : 0);
        about("12: what is refused of WARMTH");
        for (int cell : new int[] {-1, 2, 12, 20, LEAST, MOST}) {
            same("warm(" + cell + ", 1)", 0, x -> x.warm(cell, 1) ? 1 : 0);
        }
        for (int v : new int[] {-1, 21, 50, 99, LEAST, MOST}) {
            same("warm(0, " + v + ")", 0, x -> x.warm(0, v) ? 1 : 0);
        }
        same("warm(1, 51)", 0, x -> x.warm(1, 51) ? 1 : 0);
        about("13: what is refused of hours of an OVEN");
        for (int oven : new int[] {-1, 2, 3, LEAST, MOST}) {
            same("bake(" + oven + ", 1, 2)", 0, x -> x.bake(oven, 1, 2) ? 1 : 0);
        }
        for (int hour : new int[] {-1, 24, LEAST, MOST}) {
            same("bake(0, " + hour + ", 2)", 0, x -> x.bake(0, hour, 2) ? 1 : 0);
            same("bake(0, 2, " + hour + ")", 0, x -> x.bake(0, 2, hour) ? 1 : 0);
        }
    }

    private static void hoursAndImages() {
        about("14: what is refused of HOURS");
        in("busy", RefusalTest::busy);
        for (int n : new int[] {0, -1, 73, LEAST, MOST}) {
            same("hours(" + n + ")", NONE, x -> x.hours(n));
        }
        about("15: none can be UNDONE");
        in("full", RefusalTest::full);
        same("undo()", NONE, WarmWall::undo);
        about("36: no IMAGE of this WALL");
        same("back()", NONE, WarmWall::back);
        in("busy, all UNDONE", () -> {
            WarmWall x = busy();
            while (x.count(10) > 0) {
                x.undo();
            }
            return x;
        });
        same("undo()", NONE, WarmWall::undo);
        in("busy, the sixty UNDONE", () -> {
            WarmWall x = busy();
            x.hours(72);
            for (int hour = 0; hour < 60; hour++) {
                x.undo();
            }
            return x;
        });
        same("undo()", NONE, WarmWall::undo);
        in("busy, come BACK", () -> {
            WarmWall x = busy();
            x.back();
            return x;
        });
        same("undo()", NONE, WarmWall::undo);
        same("back() once more", 30, WarmWall::back);
        in("busy, with an IMAGE of now", () -> {
            WarmWall x = busy();
            x.image();
            return x;
        });
        same("image() once more", 37, WarmWall::image);
    }

    private static void aheadAndAir() {
        about("16: what is refused of AHEAD");
        in("busy", RefusalTest::busy);
        for (int cell : new int[] {-1, 2, 12, 20, LEAST, MOST}) {
            same("ahead(" + cell + ", 1, 0)", NONE, x -> x.ahead(cell, 1, 0));
            same("ahead(" + cell + ", 1, 1)", NONE, x -> x.ahead(cell, 1, 1));
        }
        for (int n : new int[] {0, -1, 73, LEAST, MOST}) {
            same("ahead(0, " + n + ", 0)", NONE, x -> x.ahead(0, n, 0));
            same("ahead(0, " + n + ", 1)", NONE, x -> x.ahead(0, n, 1));
            same("air(" + n + ")", NONE, x -> x.air(n));
        }
        for (int what : new int[] {-1, 2, LEAST, MOST}) {
            same("ahead(0, 1, " + what + ")", NONE, x -> x.ahead(0, 1, what));
        }
    }

    private static void nights() {
        about("18 to 20: what is refused of nights");
        in("busy", RefusalTest::busy);
        for (int n : new int[] {-1, LEAST, MOST}) {
            same("comfort(" + n + ", 0)", NONE, x -> x.comfort(n, 0));
            same("comfort(0, " + n + ")", NONE, x -> x.comfort(0, n));
            same("choice(" + n + ")", NONE, x -> x.choice(n));
            same("most(" + n + ")", NONE, x -> x.most(n));
        }
        same("comfort(3, 0)", NONE, x -> x.comfort(3, 0));
        same("comfort(0, 2)", NONE, x -> x.comfort(0, 2));
        same("comfort(0, 20)", NONE, x -> x.comfort(0, 20));
        same("choice(3)", NONE, x -> x.choice(3));
        same("most(2)", NONE, x -> x.most(2));
        in("more SLEEPERS than CELLS", () -> {
            WarmWall x = wall("st2h20g4;lA;n;n;n", "y:h/3");
            x.hours(9);
            put(x, "y:[h+2");
            return x;
        });
        same("choice(0)", 0, x -> x.choice(0));
        same("choice(1), none is free", NONE, x -> x.choice(1));
        same("choice(2), none is free", NONE, x -> x.choice(2));
        same("choice(3), no such one", NONE, x -> x.choice(3));
    }

    private static void otherStones() {
        about("21: what is refused of CHANGED");
        in("busy", RefusalTest::busy);
        for (int cell : new int[] {-1, 2, 12, 20, LEAST, MOST}) {
            same("changed(" + cell + ", 1, 0)", NONE, x -> x.changed(cell, 1, 0));
        }
        for (int n : new int[] {0, -1, 73, LEAST, MOST}) {
            same("changed(0, " + n + ", 0)", NONE, x -> x.changed(0, n, 0));
        }
        for (int what : new int[] {-1, 2, LEAST, MOST}) {
            same("changed(0, 1, " + what + ")", NONE, x -> x.changed(0, 1, what));
            same("laid(" + what + ")", HIDDEN, x -> x.laid(what));
        }
        about("22: too many for LAID");
        for (String text : new String[] {"s;lAAAA;lAAAA", "s;lAA;lAA;lAA;lAA", "s;s;s;s;lA", "s;s;s;s;lAAAAAA;lAAAAAA"}) {
            in(text, () -> {
                WarmWall x = wall(text, "y:h/3");
                x.hours(9);
                return x;
            });
            same("laid(0)", HIDDEN, x -> x.laid(0));
            same("laid(1)", HIDDEN, x -> x.laid(1));
        }
    }

    private static void touches() {
        about("23: what is refused of TOUCHED");
        in("busy", RefusalTest::busy);
        for (int n : new int[] {-1, LEAST, MOST}) {
            same("touched(" + n + ", 0, 0)", NONE, x -> x.touched(n, 0, 0));
            same("touched(0, " + n + ", 0)", NONE, x -> x.touched(0, n, 0));
            same("touched(0, 0, " + n + ")", NONE, x -> x.touched(0, 0, n));
            same("fits(" + n + ")", NONE, x -> x.fits(n));
            same("touch(" + n + ", 0, 0)", NONE, x -> x.touch(n, 0, 0));
            same("touch(0, " + n + ", 0)", NONE, x -> x.touch(0, n, 0));
            same("touch(0, 0, " + n + ")", NONE, x -> x.touch(0, 0, n));
        }
        same("touched(2, 0, 0)", NONE, x -> x.touched(2, 0, 0));
        same("touched(0, 49, 0)", NONE, x -> x.touched(0, 49, 0));
        same("touched(0, 0, 100)", NONE, x -> x.touched(0, 0, 100));
        about("24 and 25: what is refused of FITS, TOUCH");
        same("fits(20)", NONE, x -> x.fits(20));
        same("touch(2, 0, 0)", NONE, x -> x.touch(2, 0, 0));
        same("touch(0, 25, 0)", NONE, x -> x.touch(0, 25, 0));
        same("touch(0, 0, 2)", NONE, x -> x.touch(0, 0, 2));
        in("full", RefusalTest::full);
        same("touched(0, 0, 0), a 21st", NONE, x -> x.touched(0, 0, 0));
        same("touched(11, 48, 99), a 21st", NONE, x -> x.touched(11, 48, 99));
        in("none FITS", () -> {
            WarmWall x = busy();
            x.touched(0, 0, 99);
            return x;
        });
        same("fits(0)", 0, x -> x.fits(0));
        same("touch(0, 24, 0)", NONE, x -> x.touch(0, 24, 0));
        same("touch(0, 24, 1)", NONE, x -> x.touch(0, 24, 1));
    }

    private static void courses() {
        about("26 to 29: what is refused of WITHOUT, COLDEST, FROST, SPREAD");
        in("busy", RefusalTest::busy);
        for (int n : new int[] {0, -1, 73, LEAST, MOST}) {
            same("without(0, " + n + ")", HIDDEN, x -> x.without(0, n));
            same("coldest(" + n + ", 0)", NONE, x -> x.coldest(n, 0));
            same("coldest(" + n + ", 1)", NONE, x -> x.coldest(n, 1));
            same("frost(" + n + ")", NONE, x -> x.frost(n));
            same("giver(" + n + ", 0)", NONE, x -> x.giver(n, 0));
            same("giver(" + n + ", 1)", NONE, x -> x.giver(n, 1));
        }
        for (int n : new int[] {-1, 73, LEAST, MOST}) {
            same("spread(" + n + ")", NONE, x -> x.spread(n));
        }
        for (int n : new int[] {-1, 2, LEAST, MOST}) {
            same("without(" + n + ", 1)", HIDDEN, x -> x.without(n, 1));
            same("coldest(1, " + n + ")", NONE, x -> x.coldest(1, n));
            same("giver(1, " + n + ")", NONE, x -> x.giver(1, n));
            same("steady(" + n + ")", NONE, x -> x.steady(n));
        }
    }

    private static void flows() {
        about("30: what is refused of TIMING");
        in("busy", RefusalTest::busy);
        for (int n : new int[] {-1, 2, LEAST, MOST}) {
            same("timing(" + n + ", 0, 0)", NONE, x -> x.timing(n, 0, 0));
            same("timing(0, " + n + ", 0)", NONE, x -> x.timing(0, n, 0));
            same("timing(0, 0, " + n + ")", NONE, x -> x.timing(0, 0, n));
        }
        about("31: what is refused of FLOW");
        for (int n : new int[] {0, -1, 73, LEAST, MOST}) {
            same("flow(0, 1, " + n + ")", NONE, x -> x.flow(0, 1, n));
        }
        for (int to : new int[] {0, 11, 2, 20, -1, -10, LEAST, MOST}) {
            same("flow(0, " + to + ", 1)", NONE, x -> x.flow(0, to, 1));
            same("flow(" + to + ", 0, 1)", NONE, x -> x.flow(to, 0, 1));
        }
        about("33: what is refused of THAW");
        for (int n : new int[] {-1, LEAST, MOST}) {
            same("thaw(" + n + ", 0)", NONE, x -> x.thaw(n, 0));
            same("thaw(0, " + n + ")", NONE, x -> x.thaw(0, n));
        }
        same("thaw(2, 0)", NONE, x -> x.thaw(2, 0));
        same("thaw(0, 100)", NONE, x -> x.thaw(0, 100));
        same("thaw(0, 21), more than it HOLDS", NONE, x -> x.thaw(0, 21));
        about("34: not within 20");
        in("one more on each of many days", () -> {
            WarmWall x = wall("st1h99g0;lA", "y:h=0?1");
            x.hours(72);
            return x;
        });
        same("steady(0)", NONE, x -> x.steady(0));
        same("steady(1)", NONE, x -> x.steady(1));
    }

    private static void questions() {
        about("apart, from as it is");
        in("busy", RefusalTest::busy);
        for (int k = 0; k < 2; k++) {
            int what = k;
            asked("cell(0, .)", x -> cellOf(x, 0, 2 * what) + cellOf(x, 0, 2 * what + 1));
            asked("ahead(1, 72, .)", x -> x.ahead(1, 72, what));
            asked("most(.)", x -> x.most(what));
            asked("changed(0, 72, .)", x -> x.changed(0, 72, what));
            asked("laid(.)", x -> x.laid(what));
            asked("touch(1, 24, .)", x -> x.touch(1, 24, what));
            asked("coldest(72, .)", x -> x.coldest(72, what));
            asked("timing(0, 1, .)", x -> x.timing(0, 1, what));
            asked("timing(1, 1, .)", x -> x.timing(1, 1, what));
            asked("giver(72, .)", x -> x.giver(72, what));
            asked("steady(.)", x -> x.steady(what));
            asked("fault(.)", x -> x.fault(what));
        }
        asked("air(72)", x -> x.air(72));
        asked("comfort(0, 0)", x -> x.comfort(0, 0));
        asked("choice(2)", x -> x.choice(2));
        asked("fits(0)", x -> x.fits(0));
        asked("without(1, 72)", x -> x.without(1, 72));
        asked("frost(72)", x -> x.frost(72));
        asked("spread(72)", x -> x.spread(72));
        asked("flow(0, 1, 72)", x -> x.flow(0, 1, 72));
        asked("thaw(1, 50)", x -> x.thaw(1, 50));
        for (int what = 0; what < 12; what++) {
            int asked = what;
            asked("count(" + what + ")", x -> x.count(asked));
        }
        about("37: HIDDEN for others");
        for (int what : new int[] {-1, 12, LEAST, MOST}) {
            same("count(" + what + ")", HIDDEN, x -> x.count(what));
        }
    }
}
