/** What is asked apart, from as it is: each bound of the document's parts 3 and 4 and of promises 16 to 34. */
public final class AheadTest extends Bench {
    /** Gives all at once, takes no sun; an oven burns for an hour each day, so that it is felt in hour 23. */
    private static final String LATE = "st0h99g10;lA;of22u23h1;n";
    /** As many hours from one evening to another as the sun stands on it: 3 in the first night, 5 in the second. */
    private static final String NIGHTS = "y:d=0&h>18?3;y:d=1&h<4?3;y:d=1&h>18?5;y:d=2&h<4?5";

    public static void main(String[] args) {
        aheadOfHours();
        aheadIsAsItComes();
        airOfHours();
        nineHours();
        theNextNight();
        warmEnough();
        choiceOfCells();
        mostOfAll();
        whoOfSeveral();
        changedWithinHours();
        changedAsItHolds();
        changedOfSeveral();
        laidWithin();
        laidDigits();
        laidFromNothing();
        touchedWithin();
        fitsAtEachBound();
        fitsAsItHolds();
        touchWithin();
        touchOfSeveral();
        withoutOvens();
        coldestOfHours();
        frostBehindSome();
        spreadBehind();
        timingRoundTheClock();
        timingOfSeveral();
        flowInHours();
        giverOfHours();
        thawWithin();
        steadyWithin();
        steadyAtTheHour();
        close("AheadTest");
    }

    private static void aheadOfHours() {
        about("16: AHEAD: WARMTH of a CELL behind n HOURS (1 .. 72)");
        WarmWall x = wall("st0h99g0;lA;of23u0h1");
        int[][] warmths = {{1, 0}, {23, 0}, {24, 1}, {47, 1}, {48, 2}, {71, 2}, {72, 3}, {0, NONE}, {73, NONE}, {-1, NONE}};
        for (int[] due : warmths) {
            due("ahead(0, " + due[0] + ", 0)", x.ahead(0, due[0], 0), due[1]);
        }
        about("16: FELT there in the n-th HOUR from now");
        x = wall(LATE);
        int[][] felts = {{1, 0}, {23, 0}, {24, 1}, {25, 0}, {47, 0}, {48, 1}, {71, 0}, {72, 1}, {0, NONE}, {73, NONE}};
        for (int[] due : felts) {
            due("ahead(0, " + due[0] + ", 1)", x.ahead(0, due[0], 1), due[1]);
        }
        x.hours(23);
        due("from now", x.ahead(0, 1, 1), 1);
        due("from now", x.ahead(0, 1, 0), 0);
        due("no such CELL", x.ahead(1, 1, 0), NONE);
        due("no such CELL", x.ahead(10, 1, 0), NONE);
        due("no such CELL", x.ahead(-1, 1, 0), NONE);
        due("no such what", x.ahead(0, 1, -1), NONE);
        due("no such what", x.ahead(0, 1, 2), NONE);
    }

    /** A wall in which everything happens. */
    private static WarmWall varied() {
        WarmWall x = wall("st2h40g4;st1h9g7;lAB;lBA;of22u3h9;or1c1f5u6h7", "y:h>6&h<19?d+r+c*2");
        x.rain(13, true);
        x.rain(0, true);
        x.warm(10, 9);
        x.hours(17);
        return x;
    }

    private static void aheadIsAsItComes() {
        about("Apart, from as it is, hour by hour");
        WarmWall x = varied();
        WarmWall gone = varied();
        int[] cells = {0, 1, 10, 11};
        int air = 0;
        for (int n = 1; n <= 72; n++) {
            int cell = cells[n % 4];
            due("FELT in the " + n, x.ahead(cell, n, 1), gone.cell(cell, 3));
            air += gone.air(1);
            due("AIR", x.air(n), air);
            gone.hours(1);
            due("WARMTH behind " + n, x.ahead(cell, n, 0), gone.cell(cell, 1));
        }
    }

    private static void airOfHours() {
        about("17: AIR: all FELT in n HOURS");
        WarmWall x = wall(LATE);
        int[][] airs = {{1, 0}, {23, 0}, {24, 1}, {47, 1}, {48, 2}, {71, 2}, {72, 3}, {0, NONE}, {73, NONE}, {-1, NONE}};
        for (int[] due : airs) {
            due("air(" + due[0] + ")", x.air(due[0]), due[1]);
        }
        x = wall("st0h99g10;lAAAAAA;lAAAAAA;lAAAAAA;lAAAAAA");
        x.warm(0, 3);
        x.warm(35, 2);
        x.warm(12, 1);
        due("of all CELLS", x.air(1), 6);
        due("no WALL", new WarmWall().air(1), NONE);
    }

    private static void nineHours() {
        about("18: the nine HOURS from the next hour 20 of a DAY on");
        for (int cold = 0; cold < 24; cold++) {
            WarmWall x = wall("st0h99g10;lA;o;n");
            x.bake(0, (cold + 1) % 24, cold);
            // no heat of this hour is felt in the next one
            boolean isNight = cold >= 19 || cold <= 3;
            due("without the hour " + cold, x.comfort(0, 0), isNight ? 0 : 8);
            x.hours(1);
            due("an hour on", x.comfort(0, 0), isNight ? 0 : 8);
        }
    }

    private static void theNextNight() {
        about("18: the next hour 20 of a DAY (this one, too, if it is that)");
        WarmWall x = wall("st1h99g10;lA;nf2", NIGHTS);
        for (int hour = 0; hour < 70; hour++) {
            int felt = hour <= 20 ? 3 : hour <= 44 ? 5 : 0;
            due("comfort(0, 0) at " + hour, x.comfort(0, 0), felt + 2);
            // laid, it begins with nothing, so that nothing is felt in the first hour
            due("laid(1) by the same night at " + hour, x.laid(1), hour == 20 || hour == 44 ? 0 : felt);
            x.hours(1);
        }
        about("18: the next hour 20, late");
        x = wall("st1h99g10;lA;nf2", "y:d=50&h>18?3;y:d=51&h<4?3;y:d=51&h>18?5;y:d=52&h<4?5");
        pass(x, 24 * 50);
        for (int hour = 0; hour < 24; hour++) {
            due("comfort(0, 0) at " + hour, x.comfort(0, 0), hour <= 20 ? 5 : 7);
            x.hours(1);
        }
        about("18: the next hour 20 of a DAY (this one, too, if it is that)");
        for (int hour = 18; hour <= 22; hour++) {
            x = wall("st0h99g10;lA;of11u10h9;n");
            x.hours(hour);
            x.warm(0, 4);
            due("4 at " + hour, x.comfort(0, 0), hour == 20 ? 4 : 9);
        }
        due("no such SLEEPER", x.comfort(1, 0), NONE);
        due("no such SLEEPER", x.comfort(-1, 0), NONE);
        due("no such CELL", x.comfort(0, 1), NONE);
        due("no such CELL", x.comfort(0, -1), NONE);
        due("no WALL", new WarmWall().comfort(0, 0), NONE);
    }

    private static void warmEnough() {
        about("it sleeps WARM, if that is NEED or more");
        // 8 are felt the whole night long
        String night = "st0h99g10;lA;of11u10h8;n";
        for (int need = 0; need <= 20; need++) {
            for (int fur : new int[] {0, 1, 9}) {
                WarmWall x = wall(night + "w" + need + "f" + fur);
                due("COMFORT with FUR " + fur, x.comfort(0, 0), 8 + fur);
                due("NEED " + need + ", FUR " + fur, x.most(0), 8 + fur >= need ? 1 : 0);
                due("so it is", x.most(1), 8 + fur >= need ? 1 : 0);
            }
        }
        due("NEED 99, FUR 9", wall(night + "w99f9").most(0), 0);
        due("NEED 0 in the cold", wall("st0;lA;nw0").most(0), 1);
        due("NEED 9, FUR 9 in the cold", wall("st0;lA;nw9f9").most(0), 1);
        due("NEED 10, FUR 9 in the cold", wall("st0;lA;nw10f9").most(0), 0);
    }

    private static void choiceOfCells() {
        about("19: CHOICE: SLEEPERS by numbers take each the free CELL with the greatest COMFORT (of several the lowest)");
        WarmWall x = wall("st0h99g10;lAAA;of11u10h8c1;n;nf9;nw99;n;n");
        int[] cells = {1, 0, 2, NONE, NONE};
        for (int sleeper = 0; sleeper < 5; sleeper++) {
            due("choice(" + sleeper + ")", x.choice(sleeper), cells[sleeper]);
        }
        due("no such SLEEPER", x.choice(5), NONE);
        due("no such SLEEPER", x.choice(-1), NONE);
        x = wall("st0;lAA;lAA;n;n;n;n;n");
        int[] alike = {0, 1, 10, 11, NONE};
        for (int sleeper = 0; sleeper < 5; sleeper++) {
            due("all alike: choice(" + sleeper + ")", x.choice(sleeper), alike[sleeper]);
        }
        x = wall("st0;lAAAAAA;lAAAAAA;lAAAAAA;lAAAAAA;of11u10r3c5;n;n");
        due("the very last CELL", x.choice(0), 35);
        due("beside it", x.choice(1), 25);
        due("no SLEEPER", wall("s;lA").choice(0), NONE);
        due("no WALL", new WarmWall().choice(0), NONE);
    }

    private static void mostOfAll() {
        about("20: MOST: the most SLEEPERS who could all sleep WARM, one in a CELL");
        String[] cells = {"", ";lA", ";lAA", ";lAAA", ";lAAAA", ";lAAAAA", ";lAAAAAA"};
        for (int columns = 1; columns <= 6; columns++) {
            for (int sleepers = 0; sleepers <= 5; sleepers++) {
                WarmWall x = wall("st0" + cells[columns] + ";nw0".repeat(sleepers));
                int most = Math.min(columns, sleepers);
                due("most(0) of " + sleepers + " in " + columns, x.most(0), most);
                // the greatest number has the highest bits
                due("most(1)", x.most(1), ((1 << most) - 1) << sleepers - most);
            }
        }
        WarmWall x = wall("st0;lA;n");
        due("most(-1)", x.most(-1), NONE);
        due("most(2)", x.most(2), NONE);
        due("no WALL", new WarmWall().most(0), NONE);
        due("no WALL", new WarmWall().most(1), NONE);
    }

    private static void whoOfSeveral() {
        about("20: who (bits; of several sets the greatest number)");
        // 9 and 1 of the other at the one, 4 and 2 of the other beside it
        String two = "st0h99g10;lAA;of11u10h9";
        WarmWall x = wall(two + ";n");
        due("at the oven", x.comfort(0, 0), 8);
        due("beside it", x.comfort(0, 1), 5);
        int[][] needs = {
            {8, 5, 2, 3}, {5, 8, 2, 3}, {8, 8, 1, 2}, {9, 9, 0, 0}, {6, 6, 1, 2}, {6, 5, 2, 3}, {5, 5, 2, 3}, {9, 5, 1, 2},
            {5, 9, 1, 1}, {8, 6, 1, 2}, {6, 8, 1, 2}
        };
        for (int[] need : needs) {
            x = wall(two + ";nw" + need[0] + ";nw" + need[1]);
            due("most(0) of " + need[0] + " and " + need[1], x.most(0), need[2]);
            due("most(1)", x.most(1), need[3]);
        }
        due("more, not a greater number", wall(two + ";nw8;nw5;nw9").most(1), 3);
        due("of 3, 5 and 6", wall(two + ";nw5;nw5;nw5").most(1), 6);
        due("of 3 and 5", wall(two + ";nw5;nw8;nw8").most(1), 5);
        due("of 5 and 6", wall(two + ";nw8;nw6;nw5").most(1), 6);
        due("of 3 and 5, with 6 and 7", wall(two + ";nw5;nw6;nw7").most(1), 5);
        due("with FUR", wall(two + ";nw8;nw14f9;nw9").most(1), 3);
    }

    private static void changedWithinHours() {
        about("21: CHANGED: FELT at a CELL in the n-th HOUR is greatest");
        WarmWall x = wall("st0h99g10;st1h99g10;lA", "y:d=2&h=22?7");
        int[][] felts = {{1, 0, 0}, {71, 0, 0}, {72, 1, 7}, {0, NONE, NONE}, {73, NONE, NONE}, {-1, NONE, NONE}};
        for (int[] due : felts) {
            due("changed(0, " + due[0] + ", 0)", x.changed(0, due[0], 0), due[1]);
            due("changed(0, " + due[0] + ", 1)", x.changed(0, due[0], 1), due[2]);
        }
        due("no such what", x.changed(0, 1, -1), NONE);
        due("no such what", x.changed(0, 1, 2), NONE);
        due("no such CELL", x.changed(1, 1, 0), NONE);
        due("no such CELL", x.changed(-1, 1, 0), NONE);
        due("no WALL", new WarmWall().changed(0, 1, 0), NONE);
        String last = "s;s;s;st9h99g10;lAAAAAA;lAAAAAA;lAAAAAA;lAAAAAA";
        x = wall(last, "y:r=3&c=5?9");
        due("the very last CELL and SORT", x.changed(35, 2, 0), 353);
        // 81 given, 20 to each of two
        due("how much", x.changed(35, 2, 1), 41);
    }

    private static void changedAsItHolds() {
        about("21: WARMTH stays, but is no more than the new one HOLDS");
        for (int holds : new int[] {1, 5, 39, 40, 41, 99}) {
            WarmWall x = wall("st0h50g0;st0h" + holds + "g10;lA");
            x.warm(0, 40);
            due("which", x.changed(0, 1, 0), 1);
            due("no more than " + holds, x.changed(0, 1, 1), Math.min(40, holds));
            due("it is as it was", x.cell(0, 0), 0);
            due("it is as it was", x.cell(0, 1), 40);
        }
    }

    private static void changedOfSeveral() {
        about("21: one stone by another SORT (what it is, too), of several the lowest CELL, then SORT");
        WarmWall x = wall("st0h99g10;st0h99g10;st0h99g0;lCAC");
        x.warm(1, 40);
        due("what it is, too: all but those are alike", x.changed(1, 1, 0), 0);
        due("how much", x.changed(1, 1, 1), 20);
        x.warm(2, 40);
        due("one alone does it: the lowest SORT of two", x.changed(2, 1, 0), 20);
        due("how much", x.changed(2, 1, 1), 30);
        x = wall("st0h99g0;st0h99g10;st0h99g10;lAA");
        x.warm(0, 20);
        x.warm(1, 20);
        due("the lowest SORT", x.changed(0, 1, 0), 1);
        due("how much", x.changed(0, 1, 1), 15);
        due("the CELL, then the SORT", x.changed(1, 1, 0), 11);
        due("nothing is felt", wall("st0;st0;lAA").changed(1, 9, 0), 0);
        due("nothing is felt", wall("st0;st0;lAA").changed(1, 9, 1), 0);
        x = wall("st0h99g0;st0h99g10;lBA");
        x.warm(1, 20);
        x.warm(0, 20);
        due("another CELL's stone", x.changed(0, 2, 0), 11);
    }

    private static void laidWithin() {
        about("22: LAID (6 CELLS, 3 SORTS at most)");
        for (int rows = 1; rows <= 4; rows++) {
            for (int columns = 1; columns <= 6; columns++) {
                for (int sorts = 1; sorts <= 4; sorts++) {
                    boolean is = rows * columns <= 6 && sorts <= 3;
                    String text = "st0" + ";st0".repeat(sorts - 1) + (";l" + "A".repeat(columns)).repeat(rows);
                    WarmWall x = wall(text);
                    int ones = is ? Integer.parseInt("1".repeat(rows * columns)) : HIDDEN;
                    due("laid(0) of " + text, x.laid(0), ones);
                    due("laid(1) of " + text, x.laid(1), is ? 0 : HIDDEN);
                }
            }
        }
        WarmWall x = wall("s;lA");
        due("no such what", x.laid(-1), HIDDEN);
        due("no such what", x.laid(2), HIDDEN);
        due("no WALL", new WarmWall().laid(0), HIDDEN);
        due("no WALL", new WarmWall().laid(1), HIDDEN);
    }

    private static void laidDigits() {
        about("22: digits (1 and the SORT, the lowest CELL the highest; of several the least)");
        // what comes from the sun goes to the air at once: 0, 1 or 9 times the sun
        String sorts = "st0h1g0;st1h1g0;st9h1g0";
        int[] lone = {0, 1, 2, 10, 11, 12};
        String[] digits = {"322222", "232222", "223222", "222322", "222232", "222223"};
        for (int k = 0; k < lone.length; k++) {
            WarmWall x = wall(sorts + ";lAAA;lAAA", "y:r=" + lone[k] / 10 + "&c=" + lone[k] % 10 + "?1;y:9");
            due("laid(0) for " + lone[k], x.laid(0), Integer.parseInt(digits[k]));
            due("laid(1) for " + lone[k], x.laid(1), 9);
        }
        WarmWall x = wall(sorts + ";lAAAAAA", "y:9");
        due("all of the last SORT", x.laid(0), 333333);
        due("how much", x.laid(1), 81);
        x = wall("st9h1g0;st9h1g0;st9h1g0;lB;lC;lB", "y:9");
        due("of several the least", x.laid(0), 111);
        due("how much", x.laid(1), 81);
    }

    private static void laidFromNothing() {
        about("22: from a WALL of WARMTH 0 at the HOUR as it is");
        WarmWall x = wall("st1h9g0;nf9;lB;st1h1g0", "y:9");
        due("without FUR", x.laid(1), 9);
        for (int hour = 1; hour <= 21; hour++) {
            x.hours(1);
            // at hour 20 a stone begins to hold what it takes: one of 1, the other 9
            due("laid(1) at " + hour, x.laid(1), hour == 20 ? 8 : 9);
            due("laid(0) at " + hour, x.laid(0), hour == 20 ? 2 : 1);
            due("it is as it was", x.cell(0, 0), 1);
            due("it is as it was", x.cell(0, 1), 1);
        }
    }

    private static void touchedWithin() {
        about("23: TOUCHED (20 at most): behind so many HOURS (0 .. 48) a CELL had a WARMTH (0 .. 99)");
        WarmWall x = wall("sh9;lAA;lAA");
        int[][] wrong = {
            {0, -1, 0}, {0, 49, 0}, {0, 0, -1}, {0, 0, 100}, {2, 0, 0}, {20, 0, 0}, {-1, 0, 0}, {12, 0, 0},
            {0, Integer.MAX_VALUE, 0}, {0, Integer.MIN_VALUE, 0}, {0, 0, Integer.MAX_VALUE}, {0, 0, Integer.MIN_VALUE}
        };
        int[][] right = {{0, 0, 0}, {11, 48, 99}, {1, 0, 99}, {10, 48, 0}};
        for (int touch = 1; touch <= 20; touch++) {
            for (int[] w : wrong) {
                due("touched(" + w[0] + ", " + w[1] + ", " + w[2] + ")", x.touched(w[0], w[1], w[2]), NONE);
            }
            int[] r = right[touch % 4];
            due("touched(" + r[0] + ", " + r[1] + ", " + r[2] + ")", x.touched(r[0], r[1], r[2]), touch);
            due("count(9)", x.count(9), touch);
        }
        due("a 21st", x.touched(0, 0, 0), NONE);
        due("count(9)", x.count(9), 20);
        due("no WALL", new WarmWall().touched(0, 0, 0), NONE);
    }

    private static void fitsAtEachBound() {
        about("24: FITS of a CELL: SORTS (bits) it could be, so that all that was TOUCHED was so");
        for (int sorts = 1; sorts <= 4; sorts++) {
            WarmWall x = wall("s" + ";s".repeat(sorts - 1) + ";lA;lA");
            due("nothing is TOUCHED", x.fits(0), (1 << sorts) - 1);
            due("nothing is TOUCHED", x.fits(10), (1 << sorts) - 1);
            due("no such CELL", x.fits(1), NONE);
            due("no such CELL", x.fits(20), NONE);
            due("no such CELL", x.fits(-1), NONE);
        }
        due("no WALL", new WarmWall().fits(0), NONE);
        String grow = "st0h99g0;st1h99g0;st2h99g0;st9h99g0;lAA";
        WarmWall x = wall(grow, "y:d=1&h=23?1");
        x.touched(0, 47, 0);
        due("behind 47 all alike", x.fits(0), 15);
        x.touched(0, 48, 2);
        due("behind 48", x.fits(0), 4);
        due("another CELL does not do it", x.fits(1), 0);
        x = wall(grow, "y:h=0?9;y:h=1?2");
        x.touched(0, 1, 81);
        due("behind the first", x.fits(0), 8);
        x.touched(0, 2, 99);
        due("99, as it can hold", x.fits(0), 8);
        x.touched(0, 0, 0);
        due("behind none", x.fits(0), 8);
        x.touched(0, 0, 1);
        due("behind none it was not so", x.fits(0), 0);
        x = wall(grow, "y:1");
        for (int touch = 1; touch <= 19; touch++) {
            x.touched(0, touch, touch);
            due("all that was TOUCHED", x.fits(0), 2);
        }
        x.touched(1, 48, 1);
        due("the 20th is not so", x.fits(0), 0);
        due("nor with another stone there", x.fits(1), 0);
    }

    private static void fitsAsItHolds() {
        about("24: WARMTH as it is now, but no more than it HOLDS");
        WarmWall x = wall("st0h99g0;st0h20g0;st0h19g0;st0h21g0;lAA");
        x.warm(0, 20);
        x.warm(1, 90);
        x.touched(0, 0, 20);
        due("20 as it is", x.fits(0), 11);
        x.touched(1, 48, 90);
        due("the other one is as told", x.fits(0), 11);
        due("the other one has to be as told", x.fits(1), 1);
        x = wall("st0h99g0;st0h20g0;st0h19g0;st0h21g0;lAA");
        x.warm(0, 20);
        x.touched(0, 0, 19);
        due("19 as that one holds", x.fits(0), 4);
    }

    private static void touchWithin() {
        about("25: which CELL to touch behind which HOUR (0 .. n, n 0 .. 24)");
        String text = "st1h99g0;st2h99g0;lAA";
        WarmWall x = wall(text, "y:h=23&c=1?1");
        int[][] answers = {{0, 0, 1}, {1, 0, 1}, {23, 0, 1}, {24, 2401, 2}, {25, NONE, NONE}, {-1, NONE, NONE}};
        for (int[] due : answers) {
            due("touch(1, " + due[0] + ", 0)", x.touch(1, due[0], 0), due[1]);
            due("touch(1, " + due[0] + ", 1)", x.touch(1, due[0], 1), due[2]);
        }
        due("no such what", x.touch(1, 0, -1), NONE);
        due("no such what", x.touch(1, 0, 2), NONE);
        due("no such CELL", x.touch(2, 0, 0), NONE);
        due("no such CELL", x.touch(-1, 0, 0), NONE);
        due("no WALL", new WarmWall().touch(0, 0, 0), NONE);
        x.touched(1, 24, 2);
        due("one FITS", x.touch(1, 24, 1), 1);
        due("one FITS", x.touch(1, 24, 0), 0);
        x.touched(1, 24, 3);
        due("none FITS", x.touch(1, 24, 0), NONE);
        due("none FITS", x.touch(1, 0, 1), NONE);
    }

    private static void touchOfSeveral() {
        about("25: the most unlike WARMTHS: 100 times the HOUR and the CELL (of several the least); how many");
        WarmWall late = wall("st1h99g0;st2h99g0;st3h99g0;st4h99g0;lA", "y:h=23?1");
        due("four behind the last", late.touch(0, 24, 1), 4);
        due("four behind the last", late.touch(0, 24, 0), 2400);
        due("none ahead of it", late.touch(0, 23, 1), 1);
        String four = "st1h99g0;st2h99g0;st3h99g0;st4h2g0";
        WarmWall x = wall(four + ";lA", "y:1");
        // 1 2 3 2, then 2 4 6 2, then 3 6 9 2
        due("three behind the first", x.touch(0, 1, 1), 3);
        due("three behind the first", x.touch(0, 1, 0), 100);
        due("four behind the third", x.touch(0, 3, 1), 4);
        due("four behind the third", x.touch(0, 3, 0), 300);
        due("the least of several", x.touch(0, 24, 0), 300);
        x.touched(0, 3, 2);
        due("those that FIT alone", x.touch(0, 24, 1), 1);
        x = wall(four + ";lAAAAAA;lAAAAAA;lAAAAAA;lAAAAAA", "y:r=3&c=5?1");
        due("the very last CELL", x.touch(35, 24, 0), 335);
        due("how many", x.touch(35, 24, 1), 4);
        x = wall("st0h99g10;st0h99g8;st0h99g4;lAA");
        x.warm(0, 20);
        // 5, 4 or 2 come to the one beside, 0, 4 or 12 are left: the lowest of both
        due("of two CELLS the lowest", x.touch(0, 1, 0), 100);
        x = wall("st0h20g0;st0h19g0;st0h18g0;st0h20g0;lAAA");
        x.warm(2, 20);
        due("behind none", x.touch(2, 24, 0), 2);
        due("20, 19 and 18", x.touch(2, 24, 1), 3);
    }

    private static void withoutOvens() {
        about("26: WITHOUT an OVEN: how much less is FELT in n HOURS by all CELLS");
        WarmWall x = wall(LATE);
        int[][] less = {{1, 0}, {23, 0}, {24, 1}, {47, 1}, {48, 2}, {71, 2}, {72, 3}};
        for (int[] due : less) {
            due("without(0, " + due[0] + ")", x.without(0, due[0]), due[1]);
        }
        for (int n : new int[] {0, 73, -1, Integer.MIN_VALUE, Integer.MAX_VALUE}) {
            due("without(0, " + n + ")", x.without(0, n), HIDDEN);
        }
        due("no such OVEN", x.without(1, 1), HIDDEN);
        due("no such OVEN", x.without(-1, 1), HIDDEN);
        due("no WALL", new WarmWall().without(0, 1), HIDDEN);
        x.bake(0, 5, 5);
        due("it never burns", x.without(0, 72), 0);
        x = wall("st0h99g10;lAA;of0u1h9;of0u2h5c1;of3u3");
        // 9 and 4 of the first, 5 and 2 of the second for each of two hours: nothing is lost
        for (int days = 1; days <= 3; days++) {
            due("the first", x.without(0, 24 * days), 13 * days);
            due("the second", x.without(1, 24 * days), 14 * days);
            due("the third", x.without(2, 24 * days), 0);
        }
    }

    private static void coldestOfHours() {
        about("27: COLDEST of n HOURS (from 1; of several the first); how much");
        WarmWall x = wall("st0h99g0;lAA");
        x.warm(0, 5);
        x.rain(23, true);
        int[][] answers = {
            {1, 1, 5}, {23, 1, 5}, {24, 24, 3}, {47, 24, 3}, {48, 48, 1}, {71, 48, 1}, {72, 72, 0},
            {0, NONE, NONE}, {73, NONE, NONE}, {-1, NONE, NONE}
        };
        for (int[] due : answers) {
            due("coldest(" + due[0] + ", 0)", x.coldest(due[0], 0), due[1]);
            due("coldest(" + due[0] + ", 1)", x.coldest(due[0], 1), due[2]);
        }
        due("no such what", x.coldest(1, -1), NONE);
        due("no such what", x.coldest(1, 2), NONE);
        due("no WALL", new WarmWall().coldest(1, 0), NONE);
        x = wall("st1h99g0;lAA", "y:1");
        due("now is not asked", x.coldest(72, 1), 2);
        due("from 1", x.coldest(72, 0), 1);
        x = wall("st1h99g0;lAA;of0u1h1", "y:1");
        x.warm(0, 70);
        x.warm(1, 50);
        due("WARMTHS together", x.coldest(1, 1), 123);
    }

    private static void frostBehindSome() {
        about("28: FROST: CELLS that have WARMTH 0 behind some of n HOURS: how many");
        WarmWall x = wall("st0h99g0;lAAA");
        x.warm(0, 5);
        x.warm(1, 6);
        x.warm(2, 7);
        x.rain(23, true);
        int[][] answers = {{1, 0}, {71, 0}, {72, 2}, {0, NONE}, {73, NONE}, {-1, NONE}};
        for (int[] due : answers) {
            due("frost(" + due[0] + ")", x.frost(due[0]), due[1]);
        }
        x = wall("st1h99g0;lAA", "y:1");
        due("now is not asked", x.frost(72), 0);
        x = wall("st1h99g10;lAA", "y:h=0?0;y:c=0?0;y:1");
        due("behind the first, not behind the second", x.frost(2), 2);
        x = wall("st0;lAAAAAA;lAAAAAA;lAAAAAA;lAAAAAA");
        due("all of them", x.frost(1), 24);
        due("once each", x.frost(72), 24);
        due("no WALL", new WarmWall().frost(1), NONE);
    }

    private static void spreadBehind() {
        about("29: SPREAD behind n HOURS (n 0 .. 72): the greatest WARMTH less the least");
        WarmWall x = wall("st0h99g0;lAAA;of23u0h1");
        x.warm(0, 50);
        x.warm(1, 50);
        x.warm(2, 50);
        int[][] answers = {{0, 0}, {1, 0}, {23, 0}, {24, 1}, {71, 2}, {72, 3}, {73, NONE}, {-1, NONE}};
        for (int[] due : answers) {
            due("spread(" + due[0] + ")", x.spread(due[0]), due[1]);
        }
        x.warm(1, 99);
        x.warm(2, 0);
        due("now", x.spread(0), 99);
        x.warm(0, 0);
        x.warm(1, 0);
        x.warm(2, 99);
        due("the last CELL, too", x.spread(0), 99);
        x.warm(0, 99);
        x.warm(2, 0);
        due("the first CELL, too", x.spread(0), 99);
        due("one CELL", wall("s;lA").spread(9), 0);
        due("no WALL", new WarmWall().spread(0), NONE);
    }

    private static void timingRoundTheClock() {
        about("30: FROM which hour (0 .. 23; UNTIL as far behind it as now, round the clock)");
        for (int length = 0; length < 24; length++) {
            for (int from : new int[] {0, 3, 22, 23}) {
                WarmWall x = wall("st0h99g10;lA;o");
                x.bake(0, from, (from + length) % 24);
                // it is felt the whole night long, if it burns from 19 to 3
                due(length + " hours", x.timing(0, 0, 0), length < 9 ? 0 : 28 - length);
                due(length + " hours: how much", x.timing(0, 0, 1), length < 9 ? 0 : 8);
                due("as it was", x.oven(0, 1), from);
                due("as it was", x.oven(0, 2), (from + length) % 24);
            }
        }
        // the sun does what is to be done before midnight
        WarmWall x = wall("st1h99g10;lA;of5u9", "y:h>18?8");
        due("from 0 on", x.timing(0, 0, 0), 0);
        due("how much", x.timing(0, 0, 1), 8);
        tellLaw(x, "y:h>18&h<23?8");
        x.law(1);
        due("four hours can't do it", x.timing(0, 0, 1), 0);
        x.bake(0, 12, 17);
        due("from 23 on", x.timing(0, 0, 0), 23);
        due("through midnight", x.timing(0, 0, 1), 8);
    }

    private static void timingOfSeveral() {
        about("30: COMFORT there (without FUR) is greatest (of several the lowest); how much");
        WarmWall x = wall("st0h99g10;lA;of0u12h8;of19u4h4;nf9");
        due("from 16 on", x.timing(0, 0, 0), 16);
        due("with the other one, without FUR", x.timing(0, 0, 1), 12);
        // the first one burns from midnight on: five hours are left to the other one
        due("from 15 on", x.timing(1, 0, 0), 15);
        due("with the first one", x.timing(1, 0, 1), 4);
        x = wall("st0h99g10;st0h99g0;lABA;of19u4h8c2");
        due("at its CELL", x.timing(0, 2, 1), 6);
        due("where it does not come to: how much", x.timing(0, 0, 1), 0);
        due("where it does not come to", x.timing(0, 0, 0), 0);
        due("no such OVEN", x.timing(1, 0, 0), NONE);
        due("no such OVEN", x.timing(-1, 0, 0), NONE);
        due("no such CELL", x.timing(0, 3, 0), NONE);
        due("no such CELL", x.timing(0, -1, 0), NONE);
        due("no such what", x.timing(0, 0, -1), NONE);
        due("no such what", x.timing(0, 0, 2), NONE);
        due("no WALL", new WarmWall().timing(0, 0, 0), NONE);
    }

    private static void flowInHours() {
        about("31: FLOW from a CELL to one beside it in n HOURS: all that it gives it (ovens not)");
        WarmWall x = wall("st0h99g10;lAA;lAA;of22u23h8");
        // 8 here and 4 beside it: in the hour behind it 2 and 1 are given on
        int[][] flows = {{1, 0}, {23, 0}, {24, 2}, {25, 2}, {47, 2}, {48, 4}, {71, 4}, {72, 6}};
        for (int[] due : flows) {
            due("flow(0, 1, " + due[0] + ")", x.flow(0, 1, due[0]), due[1]);
            due("flow(0, 10, " + due[0] + ")", x.flow(0, 10, due[0]), due[1]);
            due("flow(1, 0, " + due[0] + ")", x.flow(1, 0, due[0]), due[1] / 2);
            due("flow(11, 1, " + due[0] + ")", x.flow(11, 1, due[0]), 0);
        }
        for (int n : new int[] {0, 73, -1, Integer.MIN_VALUE, Integer.MAX_VALUE}) {
            due("flow(0, 1, " + n + ")", x.flow(0, 1, n), NONE);
        }
        int[][] pairs = {{0, 0}, {0, 11}, {1, 10}, {1, 2}, {2, 1}, {0, 20}, {10, 20}, {0, -1}, {-1, 0}, {-1, -1}, {-10, 0}};
        for (int[] pair : pairs) {
            due("flow(" + pair[0] + ", " + pair[1] + ", 1)", x.flow(pair[0], pair[1], 1), NONE);
        }
        due("no WALL", new WarmWall().flow(0, 1, 1), NONE);
    }

    private static void giverOfHours() {
        about("32: GIVER of n HOURS: the CELL at which most is FELT in all (of several the lowest); how much");
        WarmWall x = wall("st0h99g10;lAAA;of22u23h1c2");
        int[][] answers = {
            {1, 0, 0}, {23, 0, 0}, {24, 2, 1}, {47, 2, 1}, {48, 2, 2}, {71, 2, 2}, {72, 2, 3},
            {0, NONE, NONE}, {73, NONE, NONE}, {-1, NONE, NONE}
        };
        for (int[] due : answers) {
            due("giver(" + due[0] + ", 0)", x.giver(due[0], 0), due[1]);
            due("giver(" + due[0] + ", 1)", x.giver(due[0], 1), due[2]);
        }
        due("no such what", x.giver(1, -1), NONE);
        due("no such what", x.giver(1, 2), NONE);
        due("no WALL", new WarmWall().giver(1, 0), NONE);
        due("no WALL", new WarmWall().giver(1, 1), NONE);
        due("one CELL", wall(LATE).giver(72, 0), 0);
        due("one CELL", wall(LATE).giver(72, 1), 3);
        x.warm(0, 3);
        due("of two the lowest", x.giver(72, 0), 0);
        x.warm(1, 3);
        due("of three the lowest", x.giver(72, 0), 0);
        x.warm(0, 0);
        due("of two the lowest", x.giver(72, 0), 1);
        x = wall("st0h99g10;lAAAAAA;lAAAAAA;lAAAAAA;lAAAAAA");
        x.warm(35, 1);
        due("the very last CELL", x.giver(1, 0), 35);
    }

    private static void thawWithin() {
        about("33: THAW of a CELL: the fewest HOURS (0 .. 72) behind which it has a WARMTH or more");
        WarmWall x = wall("st0h99g0;lA;of23u0h1");
        int[][] answers = {{0, 0}, {1, 24}, {2, 48}, {3, 72}, {4, NONE}, {99, NONE}, {100, NONE}, {-1, NONE}};
        for (int[] due : answers) {
            due("thaw(0, " + due[0] + ")", x.thaw(0, due[0]), due[1]);
        }
        x.warm(0, 98);
        due("at once", x.thaw(0, 98), 0);
        due("or more", x.thaw(0, 97), 0);
        due("99", x.thaw(0, 99), 24);
        due("100", x.thaw(0, 100), NONE);
        due("no such CELL", x.thaw(1, 0), NONE);
        due("no such CELL", x.thaw(-1, 0), NONE);
        due("no WALL", new WarmWall().thaw(0, 0), NONE);
        x = wall("st0h99g10;lA;of2u3h5");
        due("once is enough", x.thaw(0, 5), 3);
        x = wall("st0h99g0;lA;of23u0h5");
        due("or more, behind 72", x.thaw(0, 11), 72);
        due("15 behind 72", x.thaw(0, 15), 72);
        due("not within 72", x.thaw(0, 16), NONE);
        x = wall("st9h99g0;lA", "y:h=1?1");
        due("or more, by leaps", x.thaw(0, 3), 2);
    }

    private static void dueSteady(WarmWall x, int fewer, int on) {
        due("steady(0)", x.steady(0), fewer);
        due("steady(1)", x.steady(1), on);
    }

    private static void steadyWithin() {
        about("34: the least number of DAYS (20 at most) behind which they are as behind some fewer ones");
        dueSteady(wall("st0;lA"), 0, 1);
        dueSteady(new WarmWall(), NONE, NONE);
        due("no such what", wall("st0;lA").steady(-1), NONE);
        due("no such what", wall("st0;lA").steady(2), NONE);
        for (int holds = 1; holds <= 25; holds++) {
            // one more on each DAY: behind as many as it HOLDS it is full, the next one is the same
            WarmWall x = wall("st1h" + holds + "g0;lA", "y:h=0?1");
            dueSteady(x, holds < 20 ? holds : NONE, holds < 20 ? 1 : NONE);
        }
        for (int period = 1; period <= 25; period++) {
            // behind a DAY the two are told apart by its number, that begins again behind so many
            String number = "[[d+1]-[d+1]/" + period + "*" + period + "]";
            String law = "y:h=23&c=0?" + number + "-" + number + "/5*5;y:h=23?" + number + "/5";
            WarmWall x = wall("st1h99g10;lAA", law);
            dueSteady(x, period <= 20 ? 0 : NONE, period <= 20 ? period : NONE);
        }
        // 0, 7 and 8 stand ahead of a round of 3
        WarmWall x = wall("st1h99g10;lA", "y:h=23&d<2?7+d;y:h=23?d-d/3*3+1");
        dueSteady(x, 3, 3);
    }

    private static void steadyAtTheHour() {
        about("34: at the hour of the DAY as it is");
        WarmWall x = wall("st1h99g10;lA", "y:h=23?d-d/2*2");
        // behind each DAY that has an odd number there is 1 at midnight, but at midnight alone
        dueSteady(x, 0, 1);
        x.hours(23);
        dueSteady(x, 0, 1);
        x.hours(1);
        dueSteady(x, 0, 2);
        x.hours(1);
        dueSteady(x, 0, 1);
        x.hours(23);
        due("1 is there", x.cell(0, 1), 1);
        dueSteady(x, 0, 2);
        about("34: LAWS with d are asked with d as it goes");
        x = wall("st1h99g0;lA", "y:h=0&d>2&d<6?1");
        dueSteady(x, 0, 1);
        x.hours(72);
        dueSteady(x, 3, 1);
        x.hours(24);
        dueSteady(x, 2, 1);
    }
}
