import java.util.NoSuchElementException;
import java.util.Set;

/** What the tests of answers share: texts on a tape, walls made of them, answers compared and counted. */
abstract class Bench {
    static final int NONE = WarmWall.NONE;
    static final int HIDDEN = WarmWall.HIDDEN;

    private static int passed;
    private static int failed;
    private static String sentence = "";

    /** Which promise or sentence of the document the answers from here on are due to. */
    static void about(String told) {
        sentence = told;
    }

    static void due(String call, long got, long want) {
        if (got == want) {
            passed++;
        } else {
            failed++;
            System.out.println(sentence + ": " + call + " answered " + got + ", due is " + want);
        }
    }

    static void due(String call, boolean got, boolean want) {
        due(call, got ? 1 : 0, want ? 1 : 0);
    }

    static boolean cellThrows(WarmWall x, int cell, int what) {
        try {
            x.cell(cell, what);
            return false;
        } catch (NoSuchElementException e) {
            return true;
        }
    }

    static void dueThrow(WarmWall x, int cell, int what) {
        due("cell(" + cell + ", " + what + ") throws", cellThrows(x, cell, what), true);
    }

    /** Tells how many answers were as due; with one that was not, the machine stops with exit code 1. */
    static void close(String test) {
        System.out.println(test + ": " + passed + " passed, " + failed + " failed");
        if (failed > 0) {
            System.exit(1);
        }
    }

    /** Feeds a text; how many bytes the tape has then. */
    static int put(WarmWall x, String text) {
        int length = 0;
        for (int from = 0; from < text.length(); from += 20) {
            int[] words = new int[5];
            for (int k = 0; k < 20 && from + k < text.length(); k++) {
                words[k / 4] |= (text.charAt(from + k) & 255) << 24 - 8 * (k % 4);
            }
            length = x.feed(words[0], words[1], words[2], words[3], words[4]);
        }
        return length;
    }

    static WarmWall wall(String text) {
        WarmWall x = new WarmWall();
        put(x, text);
        due("text(0) of " + text, x.text(0) > 0, true);
        return x;
    }

    static int tellLaw(WarmWall x, String text) {
        x.end(0);
        put(x, text);
        return x.text(1);
    }

    /** A wall on which the sun stands by a law. */
    static WarmWall wall(String text, String law) {
        WarmWall x = wall(text);
        due("text(1) of " + law, tellLaw(x, law), 0);
        due("law(0)", x.law(0), true);
        return x;
    }

    /** Lets hours go by, more than can go by at once, too. */
    static void pass(WarmWall x, int hours) {
        for (int rest = hours; rest > 0; rest -= 72) {
            x.hours(Math.min(rest, 72));
        }
    }

    static int faultOf(int sort, String text) {
        WarmWall x = new WarmWall();
        put(x, text);
        return x.fault(sort);
    }

    static void dueFault(int sort, String text, int want) {
        due("fault(" + sort + ") of " + text, faultOf(sort, text), want);
    }

    static void dueGood(int sort, String text) {
        dueFault(sort, text, NONE);
    }

    /** The text ends too early, or it can be seen at its end alone that it is none. */
    static void dueEarly(int sort, String text) {
        dueFault(sort, text, text.length());
    }

    /** The text can go on behind what is told first, but not so. */
    static void dueWrong(int sort, String ahead, String wrong) {
        dueFault(sort, ahead + wrong, ahead.length());
    }

    /** Each byte behind a beginning: some end a text there, with some it can go on, the others are wrong. */
    static void dueSigns(int sort, String ahead, String ends, String goesOn) {
        for (char sign = 1; sign < 256; sign++) {
            int want = ends.indexOf(sign) >= 0 ? NONE : goesOn.indexOf(sign) >= 0 ? ahead.length() + 1 : ahead.length();
            due("fault(" + sort + ") of " + ahead + " and byte " + (int) sign, faultOf(sort, ahead + sign), want);
        }
    }

    private static boolean isWithinNumber(String text, int at) {
        return at > 0 && at < text.length() && Character.isDigit(text.charAt(at - 1)) && Character.isDigit(text.charAt(at));
    }

    /** Blanks at each place of a text: they may stand there, but for those within a number of two digits. */
    static void dueBlanks(int sort, String text) {
        for (int at = 0; at <= text.length(); at++) {
            for (String blanks : new String[] {" ", "   "}) {
                String told = text.substring(0, at) + blanks + text.substring(at);
                dueFault(sort, told, isWithinNumber(text, at) ? at + blanks.length() : NONE);
            }
        }
        for (char other : new char[] {9, 10, 13, 160}) {
            dueWrong(sort, text, "" + other);
        }
    }

    /** A text with a blank at each place where one may stand. */
    static String blanksEverywhere(String text) {
        StringBuilder told = new StringBuilder();
        for (int at = 0; at <= text.length(); at++) {
            told.append(isWithinNumber(text, at) ? "" : " ").append(at < text.length() ? text.charAt(at) : "");
        }
        return told.toString();
    }

    /** Each beginning of a text ends too early, but for those that are whole by themselves. */
    static void dueBeginnings(int sort, String text, Set<Integer> whole) {
        for (int length = 0; length <= text.length(); length++) {
            boolean isWhole = length == text.length() || whole.contains(length);
            dueFault(sort, text.substring(0, length), isWhole ? NONE : length);
        }
    }
}
