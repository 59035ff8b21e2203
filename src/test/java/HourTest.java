/** The wall as it is and an hour that goes by: each bound of the document's part 2 and of promises 6 to 15, 35 to 37. */
public final class HourTest extends Bench {
    public static void main(String[] args) {
        atFirst();
        names();
        numbersOfTheWall();
        daysOfHours();
        sunWithoutLaw();
        lawsThatHold();
        rainByHours();
        givesCut();
        givesToThoseBeside();
        fourthsCut();
        takes();
        rainTakes();
        rainIsLost();
        holds();
        ovensBurn();
        heat();
        heatBeside();
        severalOvens();
        allAsTheHourBegins();
        warmthByHand();
        hoursByHand();
        hoursThatGoBy();
        hoursUndone();
        warmthUndone();
        images();
        back();
        theLastCalls();
        close("HourTest");
    }

    private static void atFirst() {
        about("WARMTH of all is 0 at first, the HOUR 0");
        WarmWall x = wall("s;s;lABABAB;lBABABA;lABABAB;lBABABA");
        for (int row = 0; row < 4; row++) {
            for (int column = 0; column < 6; column++) {
                due("WARMTH of " + row + column, x.cell(10 * row + column, 1), 0);
            }
        }
        due("the HOUR", x.count(7), 0);
        due("no RAIN", x.count(11), 0);
        due("none holds", x.count(8), NONE);
    }

    private static void names() {
        about("a CELL is told as 10 times its ROW and its COLUMN");
        for (int rows = 1; rows <= 4; rows++) {
            for (int columns = 1; columns <= 6; columns++) {
                WarmWall x = wall("s" + (";l" + "A".repeat(columns)).repeat(rows));
                for (int cell = -12; cell < 60; cell++) {
                    boolean is = cell >= 0 && cell / 10 < rows && cell % 10 < columns;
                    due(cell + " is one of " + rows + " times " + columns, x.warm(cell, 0), is);
                    due("so cell(" + cell + ", 0)", cellThrows(x, cell, 0), !is);
                }
                dueThrow(x, Integer.MIN_VALUE, 0);
                dueThrow(x, Integer.MAX_VALUE, 0);
            }
        }
        WarmWall x = wall("s;lA");
        for (int what = -2; what < 6; what++) {
            due("cell(0, " + what + ")", cellThrows(x, 0, what), what < 0 || what > 3);
        }
    }

    private static void numbersOfTheWall() {
        about("7 to 9: no such ones");
        String[] sorts = {"s", "s;s", "s;s;s", "s;s;s;s"};
        for (int told = 1; told <= 4; told++) {
            WarmWall x = wall(sorts[told - 1] + ";o".repeat(told - 1) + ";n".repeat(told + 1) + ";lA");
            for (int which = -1; which <= 6; which++) {
                for (int what = -1; what <= 5; what++) {
                    boolean isStone = which >= 0 && which < told && what >= 0 && what < 3;
                    due("stone(" + which + ", " + what + ")", x.stone(which, what) != NONE, isStone);
                    boolean isOven = which >= 0 && which < told - 1 && what >= 0 && what < 5;
                    due("oven(" + which + ", " + what + ")", x.oven(which, what) != NONE, isOven);
                    boolean isSleeper = which >= 0 && which < told + 1 && what >= 0 && what < 2;
                    due("sleeper(" + which + ", " + what + ")", x.sleeper(which, what) != NONE, isSleeper);
                }
            }
        }
    }

    private static void daysOfHours() {
        about("DAYS have 24 HOURS, 0 .. 23");
        WarmWall x = wall("s;lA", "y:h=0?1;y:h=23?2;y:h>23?9;y:5");
        tellLaw(x, "y:d");
        for (int hour = 0; hour <= 48; hour++) {
            due("the HOUR", x.count(7), hour);
            x.law(0);
            due("h at " + hour, x.cell(0, 2), hour % 24 == 0 ? 1 : hour % 24 == 23 ? 2 : 5);
            x.law(1);
            due("d at " + hour, x.cell(0, 2), hour < 24 ? 0 : hour < 48 ? 1 : 2);
            x.hours(1);
        }
    }

    private static void sunWithoutLaw() {
        about("none at first: 5 from hour 8 to 15, 0 else");
        WarmWall x = wall("st1h99g10;lA");
        for (int hour = 0; hour < 50; hour++) {
            int want = hour % 24 >= 8 && hour % 24 <= 15 ? 5 : 0;
            due("SUN at " + hour, x.cell(0, 2), want);
            due("taken at " + hour, x.ahead(0, 1, 0), want);
            x.hours(1);
        }
    }

    private static void lawsThatHold() {
        about("10: the LAW that holds (NONE: none). False: no such one");
        WarmWall x = wall("s;lA");
        due("law(0)", x.law(0), false);
        due("law(NONE)", x.law(NONE), true);
        for (int told = 1; told <= 4; told++) {
            tellLaw(x, "y:" + told);
            for (int law = -3; law <= 5; law++) {
                boolean is = law >= NONE && law < told;
                int held = is ? law : x.count(8);
                due("law(" + law + ") of " + told, x.law(law), is);
                due("count(8)", x.count(8), held);
                due("SUN", x.cell(0, 2), held + 1);
            }
        }
        due("law(MIN_VALUE)", x.law(Integer.MIN_VALUE), false);
        due("law(MAX_VALUE)", x.law(Integer.MAX_VALUE), false);
        due("count(8)", x.count(8), 3);
        due("law(NONE)", x.law(NONE), true);
        due("count(8)", x.count(8), NONE);
        due("SUN", x.cell(0, 2), 0);
    }

    private static void rainByHours() {
        about("11: RAIN at an hour of the DAY, or not. False: no WALL, no such hour, it is so");
        due("no WALL", new WarmWall().rain(0, true), false);
        for (int hour = 0; hour < 24; hour++) {
            WarmWall x = wall("st0h99g0;lA");
            due("it is so: none", x.rain(hour, false), false);
            due("rain(" + hour + ", true)", x.rain(hour, true), true);
            due("it is so", x.rain(hour, true), false);
            due("RAIN", x.count(11), 1 << hour);
            x.warm(0, 99);
            due("not yet", hour == 0 ? 99 : x.ahead(0, hour, 0), 99);
            due("it falls", x.ahead(0, hour + 1, 0), 97);
            due("on each DAY", x.ahead(0, hour + 25, 0), 95);
            due("on the third DAY", x.ahead(0, hour + 49 > 72 ? 72 : hour + 49, 0), 93);
            due("rain(" + hour + ", false)", x.rain(hour, false), true);
            due("it is so", x.rain(hour, false), false);
            due("RAIN", x.count(11), 0);
            due("none falls", x.ahead(0, hour + 1, 0), 99);
        }
        WarmWall x = wall("s;lA");
        for (int hour : new int[] {-1, 24, 31, 32, 33, -32, Integer.MIN_VALUE, Integer.MAX_VALUE}) {
            due("rain(" + hour + ", true)", x.rain(hour, true), false);
            due("rain(" + hour + ", false)", x.rain(hour, false), false);
            due("RAIN", x.count(11), 0);
        }
        for (int hour = 0; hour < 24; hour++) {
            x.rain(hour, true);
        }
        due("all day long", x.count(11), (1 << 24) - 1);
    }

    private static void givesCut() {
        about("a CELL GIVES WARMTH times GIVES by 10, cut");
        for (int gives = 0; gives <= 10; gives++) {
            WarmWall x = wall("st0h99g" + gives + ";lA");
            for (int warmth = 0; warmth < 100; warmth++) {
                x.warm(0, warmth);
                due("FELT of " + warmth, x.cell(0, 3), warmth * gives / 10);
                due("left of " + warmth, x.ahead(0, 1, 0), warmth - warmth * gives / 10);
            }
        }
    }

    private static void givesToThoseBeside() {
        about("beside it are those above, below, left, right of it");
        int[][] walls = {{1, 1}, {1, 6}, {4, 1}, {2, 2}, {3, 3}, {4, 6}};
        for (int[] size : walls) {
            String text = "st0h99g10" + (";l" + "A".repeat(size[1])).repeat(size[0]);
            for (int from = 0; from < size[0] * size[1]; from++) {
                WarmWall x = wall(text);
                int row = from / size[1];
                int column = from % size[1];
                x.warm(10 * row + column, 99);
                int beside = 0;
                for (int to = 0; to < size[0] * size[1]; to++) {
                    int apart = Math.abs(row - to / size[1]) + Math.abs(column - to % size[1]);
                    beside += apart == 1 ? 1 : 0;
                    int name = 10 * (to / size[1]) + to % size[1];
                    due(name + " has from " + row + column, x.ahead(name, 1, 0), apart == 1 ? 24 : 0);
                    int flow = x.flow(10 * row + column, name, 1);
                    due("flow to " + name + " from " + row + column, flow, apart == 1 ? 24 : NONE);
                }
                due("all the rest to the AIR", x.cell(10 * row + column, 3), 99 - 24 * beside);
            }
        }
    }

    private static void fourthsCut() {
        about("of that a fourth, cut, to each CELL beside it, all the rest to the AIR");
        WarmWall x = wall("st0h99g10;lAAA;lAAA;lAAA");
        for (int warmth = 0; warmth < 20; warmth++) {
            x.warm(11, warmth);
            due("above, of " + warmth, x.ahead(1, 1, 0), warmth / 4);
            due("right, of " + warmth, x.ahead(12, 1, 0), warmth / 4);
            due("rest of " + warmth, x.cell(11, 3), warmth % 4);
            due("all of " + warmth, x.air(1), warmth % 4);
        }
        x = wall("st0h99g10;lAA");
        for (int warmth = 0; warmth < 20; warmth++) {
            x.warm(0, warmth);
            due("beside, of " + warmth, x.ahead(1, 1, 0), warmth / 4);
            due("rest of " + warmth, x.cell(0, 3), warmth - warmth / 4);
        }
    }

    private static void takes() {
        about("it TAKES SUN times TAKES");
        for (int takes = 0; takes <= 9; takes++) {
            WarmWall x = wall("st" + takes + "h99g0;lA");
            int[] suns = {0, 1, 8, 9};
            for (int law = 0; law < suns.length; law++) {
                tellLaw(x, "y:" + suns[law]);
                x.law(law);
                due("of sun " + suns[law], x.ahead(0, 1, 0), suns[law] * takes);
            }
            x.law(NONE);
            due("of the sun at 8", x.ahead(0, 9, 0), 5 * takes);
        }
    }

    private static void rainTakes() {
        about("it TAKES SUN, if it does not RAIN");
        WarmWall x = wall("st3h99g0;lA", "y:4");
        due("without", x.ahead(0, 1, 0), 12);
        x.rain(0, true);
        due("in RAIN", x.ahead(0, 1, 0), 0);
        due("RAIN is not asked", x.cell(0, 2), 4);
        due("behind it", x.ahead(0, 2, 0), 12);
    }

    private static void rainIsLost() {
        about("in RAIN 2 less (0 at least; that is lost)");
        for (int gives = 0; gives <= 10; gives += 5) {
            WarmWall x = wall("st0h99g" + gives + ";lA");
            x.rain(0, true);
            for (int warmth = 0; warmth < 100; warmth++) {
                x.warm(0, warmth);
                int given = warmth * gives / 10;
                due("left of " + warmth, x.ahead(0, 1, 0), Math.max(0, warmth - given - 2));
                due("FELT of " + warmth, x.cell(0, 3), given);
                due("in the AIR of " + warmth, x.air(1), given);
            }
        }
    }

    private static void holds() {
        about("what is above HOLDS goes to the AIR");
        for (int holds : new int[] {1, 2, 7, 98, 99}) {
            WarmWall x = wall("st1h" + holds + "g0;lA;of0u23h3", "y:4");
            for (int warmth = Math.max(0, holds - 10); warmth <= holds; warmth++) {
                x.warm(0, warmth);
                due(warmth + " in " + holds, x.ahead(0, 1, 0), Math.min(holds, warmth + 7));
                due("above it", x.cell(0, 3), Math.max(0, warmth + 7 - holds));
                x.rain(0, true);
                due(warmth + " in " + holds + ", in RAIN", x.ahead(0, 1, 0), Math.min(holds, warmth + 1));
                due("above it, in RAIN", x.cell(0, 3), Math.max(0, warmth + 1 - holds));
                x.rain(0, false);
            }
        }
    }

    private static boolean burns(int from, int until, int hour) {
        for (int burning = from; burning != until; burning = (burning + 1) % 24) {
            if (burning == hour) {
                return true;
            }
        }
        return false;
    }

    private static void ovensBurn() {
        about("from FROM on, before UNTIL, through midnight, if UNTIL is less; never, if both are alike");
        for (int hour = 0; hour < 24; hour++) {
            for (int from = 0; from < 24; from++) {
                WarmWall x = wall("st0h99g0;lA;of" + from);
                pass(x, hour + 24);
                x.warm(0, 0);
                for (int until = 0; until < 24; until++) {
                    x.bake(0, from, until);
                    int is = burns(from, until, hour) ? 1 : 0;
                    due(from + " to " + until + " at " + hour, x.oven(0, 4), is);
                    due("its heat", x.ahead(0, 1, 0), 8 * is);
                }
            }
        }
        WarmWall x = wall("st0h99g0;lA;of23u1h1;of7u7h20");
        due("UNTIL: that one not", x.ahead(0, 2, 0), 1);
        due("through midnight", x.ahead(0, 25, 0), 3);
    }

    private static void heat() {
        about("HEAT to its CELL, and half of that, cut, to each CELL beside it");
        for (int heat = 0; heat <= 20; heat++) {
            WarmWall x = wall("st0h99g0;lAAA;lAAA;lAAA;of0u1r1c1h" + heat);
            due("HEAT", x.oven(0, 3), heat);
            for (int cell : new int[] {0, 1, 2, 10, 11, 12, 20, 21, 22}) {
                int apart = Math.abs(cell / 10 - 1) + Math.abs(cell % 10 - 1);
                int want = apart == 0 ? heat : apart == 1 ? heat / 2 : 0;
                due(cell + " of " + heat, x.ahead(cell, 1, 0), want);
            }
        }
    }

    private static void heatBeside() {
        about("an OVEN at each CELL");
        for (int row = 0; row < 4; row++) {
            for (int column = 0; column < 6; column++) {
                String text = "st0h99g0" + ";lAAAAAA".repeat(4) + ";of0u1h9r" + row + "c" + column;
                WarmWall x = wall(text);
                due("its CELL", x.oven(0, 0), 10 * row + column);
                for (int cell = 0; cell < 36; cell++) {
                    int apart = Math.abs(cell / 10 - row) + Math.abs(cell % 10 - column);
                    int want = cell % 10 > 5 ? NONE : apart == 0 ? 9 : apart == 1 ? 4 : 0;
                    due(cell + " of " + row + column, x.ahead(cell, 1, 0), want);
                }
            }
        }
    }

    private static void severalOvens() {
        about("OVENS heat together");
        WarmWall x = wall("st0h99g0;lAA;of0u1h5;of0u1h7;of0u1h9c1");
        // 5 and 7 and half of 9; 9 and half of 5, half of 7
        due("two at one", x.ahead(0, 1, 0), 16);
        due("one beside them", x.ahead(1, 1, 0), 14);
        x.bake(2, 3, 3);
        due("two at one", x.ahead(0, 1, 0), 12);
        due("none beside them", x.ahead(1, 1, 0), 5);
        x.rain(0, true);
        due("in RAIN, too", x.ahead(0, 1, 0), 10);
    }

    private static void allAsTheHourBegins() {
        about("all by WARMTH as it begins");
        WarmWall x = wall("st0h99g10;lAA;of0u1h20");
        x.warm(0, 40);
        x.warm(1, 80);
        due("20 from the other, 20 of the oven", x.ahead(0, 1, 0), 40);
        due("10 from the other, 10 of the oven", x.ahead(1, 1, 0), 20);
        due("FELT", x.cell(0, 3), 30);
        due("FELT", x.cell(1, 3), 60);
        x = wall("st0h20g10;st0h99g0;lBA");
        x.warm(1, 20);
        x.warm(0, 99);
        due("what comes goes above what it HOLDS", x.cell(0, 3), 5);
        due("and no farther", x.ahead(0, 1, 0), 99);
    }

    private static void warmthByHand() {
        about("12: 0 .. what it HOLDS");
        for (int holds = 1; holds <= 99; holds++) {
            WarmWall x = wall("sh" + holds + ";lA");
            due("warm(0, " + holds + ")", x.warm(0, holds), true);
            due("one more", x.warm(0, holds + 1), false);
            due("one less than nothing", x.warm(0, -1), false);
            due("WARMTH", x.cell(0, 1), holds);
            due("warm(0, 0)", x.warm(0, 0), true);
            due("WARMTH", x.cell(0, 1), 0);
        }
        WarmWall x = wall("sh9;sh60;lAB;lBA");
        due("by its own SORT", x.warm(0, 10), false);
        due("by its own SORT", x.warm(1, 60), true);
        due("by its own SORT", x.warm(10, 60), true);
        due("by its own SORT", x.warm(11, 10), false);
        due("no such CELL", x.warm(2, 0), false);
        due("no such CELL", x.warm(20, 0), false);
        due("no such CELL", x.warm(-1, 0), false);
    }

    private static void hoursByHand() {
        about("13: hours of an OVEN. False: no such ones");
        due("no WALL", new WarmWall().bake(0, 1, 2), false);
        due("no OVEN", wall("s;lA").bake(0, 1, 2), false);
        int[] ends = {-1, 0, 1, 22, 23, 24, Integer.MIN_VALUE, Integer.MAX_VALUE};
        for (int oven = -1; oven <= 3; oven++) {
            for (int from : ends) {
                for (int until : ends) {
                    boolean is = oven >= 0 && oven < 3 && from >= 0 && from < 24 && until >= 0 && until < 24;
                    WarmWall x = wall("s;lA;o;o;o");
                    due("bake(" + oven + ", " + from + ", " + until + ")", x.bake(oven, from, until), is);
                }
            }
        }
        WarmWall x = wall("s;lA;o;o;o");
        due("bake(2, 0, 23)", x.bake(2, 0, 23), true);
        due("FROM", x.oven(2, 1), 0);
        due("UNTIL", x.oven(2, 2), 23);
        due("bake(0, 23, 0)", x.bake(0, 23, 0), true);
        due("FROM", x.oven(0, 1), 23);
        due("UNTIL", x.oven(0, 2), 0);
        due("the one between", x.oven(1, 1), 4);
        due("the one between", x.oven(1, 2), 7);
        due("bake(1, 24, 0)", x.bake(1, 24, 0), false);
        due("bake(1, 0, 24)", x.bake(1, 0, 24), false);
        due("as it was", x.oven(1, 1), 4);
        due("as it was", x.oven(1, 2), 7);
    }

    private static void hoursThatGoBy() {
        about("14: HOURS (1 .. 72) go by: the HOUR (all since the first)");
        due("no WALL", new WarmWall().hours(1), NONE);
        WarmWall x = wall("s;lA");
        for (int wrong : new int[] {0, -1, 73, Integer.MIN_VALUE, Integer.MAX_VALUE}) {
            due("hours(" + wrong + ")", x.hours(wrong), NONE);
            due("the HOUR", x.count(7), 0);
        }
        int since = 0;
        for (int n = 1; n <= 72; n++) {
            since += n;
            due("hours(" + n + ")", x.hours(n), since);
            due("the HOUR", x.count(7), since);
        }
        x = wall("st1h99g0;lA;of0u1h1");
        due("hours(72)", x.hours(72), 72);
        // three DAYS: the sun 40 on each, the oven 1
        due("WARMTH", x.cell(0, 1), 99);
        x = wall("st0h99g0;lA;of23u0h1");
        due("hours(72)", x.hours(72), 72);
        due("the last HOUR, too", x.cell(0, 1), 3);
    }

    private static void hoursUndone() {
        about("HOURS that go by can be UNDONE, the latest 60");
        due("no WALL", new WarmWall().undo(), NONE);
        due("none has gone by", wall("s;lA").undo(), NONE);
        for (int gone : new int[] {1, 2, 23, 24, 25, 59, 60, 61, 62, 72}) {
            WarmWall x = wall("s;lA");
            x.hours(gone);
            dueUndone(x, gone, Math.min(gone, 60));
            due("hours again", x.hours(3), Math.max(0, gone - 60) + 3);
            dueUndone(x, Math.max(0, gone - 60) + 3, 3);
        }
        for (int call = 0; call < 7; call++) {
            WarmWall x = wall("s;lA");
            pass(x, 72 * call + 30);
            x.undo();
            x.hours(2);
            int hour = 72 * call + 31;
            dueUndone(x, hour, Math.min(60, hour));
        }
    }

    private static void dueUndone(WarmWall x, int hour, int most) {
        due("count(10)", x.count(10), most);
        for (int back = 1; back <= most; back++) {
            due("undo()", x.undo(), hour - back);
            due("the HOUR", x.count(7), hour - back);
            due("count(10)", x.count(10), most - back);
        }
        due("one more", x.undo(), NONE);
        due("the HOUR", x.count(7), hour - most);
    }

    private static void warmthUndone() {
        about("15: the latest HOUR is UNDONE");
        WarmWall x = wall("st0h99g0;lAA;of0u23h1");
        x.hours(72);
        // 23 HOURS of each DAY burn
        for (int hour = 71; hour >= 12; hour--) {
            due("undo()", x.undo(), hour);
            due("WARMTH at " + hour, x.cell(0, 1), hour - hour / 24);
            due("WARMTH beside at " + hour, x.cell(1, 1), 0);
        }
        x = wall("st0h99g3;lAB;st0h50g9");
        x.warm(0, 77);
        x.warm(1, 50);
        x.hours(1);
        due("it has gone by", x.cell(0, 1) == 77, false);
        due("undo()", x.undo(), 0);
        due("WARMTH", x.cell(0, 1), 77);
        due("WARMTH", x.cell(1, 1), 50);
        x.hours(24);
        due("midnight", x.count(7), 24);
        due("past midnight back", x.undo(), 23);
        x.rain(23, true);
        x.bake(0, 1, 2);
        x.hours(1);
        x.undo();
        due("RAIN told by hand stays", x.count(11), 1 << 23);
    }

    private static void images() {
        about("35: an IMAGE (instead of the one ahead): the HOUR. NONE: no WALL");
        due("no WALL", new WarmWall().image(), NONE);
        WarmWall x = wall("st1h99g0;lA");
        due("at hour 0", x.image(), 0);
        x.hours(72);
        due("hours can be UNDONE still", x.count(10), 60);
        due("at hour 72", x.image(), 72);
        due("hours can be UNDONE still", x.count(10), 60);
        due("and still", x.undo(), 71);
        due("back() to the later one", x.back(), 72);
        due("its WARMTH", x.cell(0, 1), 99);
    }

    private static void theLastCalls() {
        about("at most 512 calls");
        // a feed and a text for the wall, end, feed and text for the law, which is told to hold: six calls
        WarmWall x = wall("st1h99g0;lA", "y:d-1510");
        int hour = 0;
        for (int call = 7; call < 511; call++) {
            hour = x.hours(72);
        }
        due("the HOUR", hour, 504 * 72);
        due("the 511th", x.undo(), 504 * 72 - 1);
        // day 1511 is the last one
        due("the 512th", x.cell(0, 2), 1);
    }

    private static void back() {
        about("36: BACK: the HOUR. NONE: no IMAGE of this WALL");
        due("no WALL", new WarmWall().back(), NONE);
        WarmWall x = wall("st1h99g0;lAA");
        due("no IMAGE", x.back(), NONE);
        x.warm(1, 33);
        x.image();
        x.warm(1, 44);
        x.hours(24);
        due("WARMTH", x.cell(1, 1), 84);
        due("back()", x.back(), 0);
        due("WARMTH", x.cell(0, 1), 0);
        due("WARMTH", x.cell(1, 1), 33);
        due("the HOUR", x.count(7), 0);
        due("no HOUR can be UNDONE then", x.count(10), 0);
        due("undo()", x.undo(), NONE);
        x.hours(2);
        due("those behind it can", x.count(10), 2);
        due("undo()", x.undo(), 1);
        due("back() once more", x.back(), 0);
        x.hours(72);
        due("back() once more", x.back(), 0);
        due("no HOUR", x.undo(), NONE);
        put(x, "s;lB");
        due("a FAULT", x.text(0), NONE);
        due("the IMAGE stays", x.back(), 0);
        x.end(0);
        put(x, "st1h99g0;lAA");
        x.text(0);
        due("another WALL", x.back(), NONE);
        x.hours(5);
        due("another IMAGE", x.image(), 5);
        due("back()", x.back(), 5);
    }
}
