import java.util.ArrayList;
import java.util.List;
import java.util.NoSuchElementException;
import java.util.Random;

/** Runs of calls, drawn with fixed seeds, on WarmWall and on Model: each answer must be the same. */
public final class ModelTest {
    private static final int RUNS = 700;
    private static final int CALLS = 160;
    private static final int DEAR_RUNS = 60;

    private final Random random;
    private final WarmWall real = new WarmWall();
    private final Model model = new Model();
    private final List<String> told = new ArrayList<>();
    private final int dearHours;
    private boolean wrong;

    private ModelTest(long seed, int dearHours) {
        random = new Random(seed);
        this.dearHours = dearHours;
    }

    public static void main(String[] args) {
        int passed = 0;
        int failed = 0;
        for (int run = 0; run < RUNS + DEAR_RUNS; run++) {
            ModelTest test = new ModelTest(run, run < RUNS ? 6 : 75);
            if (test.run(run < RUNS ? CALLS : 25)) {
                passed++;
            } else {
                failed++;
                test.told.forEach(System.out::println);
            }
            if (failed > 3) {
                break;
            }
        }
        System.out.println("ModelTest: " + passed + " passed, " + failed + " failed");
        if (failed > 0) {
            System.exit(1);
        }
    }

    private boolean run(int calls) {
        for (int k = 0; k < calls && !wrong; k++) {
            if (k == 0 && random.nextInt(8) > 0) {
                tellWall();
            } else {
                call(random.nextInt(44));
            }
        }
        return !wrong;
    }

    private void same(String call, int got, int due) {
        told.add(call + " -> " + got);
        if (got != due) {
            told.add("  wrong: due is " + due);
            wrong = true;
        }
    }

    private int upTo(int most) {
        return random.nextInt(most + 1);
    }

    private int around(int least, int most) {
        int n = least - 1 + random.nextInt(most - least + 3);
        return random.nextInt(40) == 0 ? random.nextInt() : n;
    }

    private int aHour(int most) {
        return random.nextInt(12) == 0 ? around(most, most) : around(1, Math.min(most, dearHours));
    }

    private int aCell() {
        int rows = Math.max(1, model.count(0));
        int columns = Math.max(1, model.count(1));
        return random.nextInt(12) == 0 ? around(0, 36) : 10 * random.nextInt(rows) + random.nextInt(columns);
    }

    private int anOven() {
        return random.nextInt(6) == 0 ? around(0, 3) : random.nextInt(Math.max(1, model.count(3)));
    }

    private int aSleeper() {
        return random.nextInt(6) == 0 ? around(0, 5) : random.nextInt(Math.max(1, model.count(4)));
    }

    private int aWhat(int most) {
        return random.nextInt(10) == 0 ? around(0, most) : upTo(most);
    }

    private static int bit(boolean is) {
        return is ? 1 : 0;
    }

    private int realCell(int cell, int what) {
        try {
            return real.cell(cell, what);
        } catch (NoSuchElementException e) {
            return Model.THROWS;
        }
    }

    // ---- texts

    private String blank() {
        return random.nextInt(12) == 0 ? " ".repeat(1 + random.nextInt(2)) : "";
    }

    private String items(String letters, int... bounds) {
        StringBuilder text = new StringBuilder(blank());
        List<Integer> left = new ArrayList<>();
        for (int k = 0; k < letters.length(); k++) {
            left.add(k);
        }
        while (!left.isEmpty() && random.nextInt(5) > 0) {
            int k = left.remove(random.nextInt(left.size()));
            int number = bounds[2 * k] + random.nextInt(bounds[2 * k + 1] - bounds[2 * k] + 1);
            if (random.nextInt(150) == 0) {
                number = random.nextInt(130);
            }
            String digits = number < 10 && random.nextInt(10) == 0 ? "0" + number : "" + number;
            text.append(letters.charAt(k)).append(blank()).append(digits).append(blank());
        }
        return text.toString();
    }

    private String wallText() {
        int sorts = 1 + random.nextInt(4);
        boolean isSmall = random.nextInt(3) > 0;
        int rows = 1 + random.nextInt(isSmall ? 2 : 4);
        int columns = 1 + random.nextInt(isSmall ? 3 : 6);
        List<String> clauses = new ArrayList<>();
        for (int k = 0; k < sorts; k++) {
            clauses.add("s" + items("thg", 0, 9, 1, 99, 0, 10));
        }
        for (int k = random.nextInt(4); k > 0; k--) {
            clauses.add("o" + items("rcfuh", 0, rows - 1, 0, columns - 1, 0, 23, 0, 23, 0, 20));
        }
        for (int k = random.nextInt(6); k > 0; k--) {
            clauses.add("n" + items("wf", 0, random.nextInt(3) == 0 ? 99 : 12, 0, 9));
        }
        for (int r = 0; r < rows; r++) {
            StringBuilder row = new StringBuilder("l");
            for (int c = 0; c < columns; c++) {
                row.append(blank()).append((char) ('A' + random.nextInt(sorts)));
            }
            // sorts keep their order: where rows stand between, does not matter
            clauses.add(random.nextInt(clauses.size() + 1), row.toString());
        }
        return String.join(blank() + ";" + blank(), clauses);
    }

    private String sumText(int depth) {
        StringBuilder text = new StringBuilder(atomText(depth));
        while (random.nextInt(5) < 2) {
            text.append(blank()).append("+-*/".charAt(random.nextInt(4))).append(blank()).append(atomText(depth));
        }
        return text.toString();
    }

    private String atomText(int depth) {
        if (depth > 0 && random.nextInt(6) == 0) {
            return "[" + blank() + sumText(depth - 1) + "]";
        }
        if (random.nextInt(3) == 0) {
            int digits = random.nextInt(8) == 0 ? 10000 : 12;
            return "" + random.nextInt(digits);
        }
        return "" + "hhhrcds".charAt(random.nextInt(7));
    }

    private String unitText(int depth) {
        int kind = depth > 0 ? random.nextInt(7) : 6;
        if (kind == 0) {
            return "!" + blank() + unitText(depth - 1);
        }
        if (kind == 1) {
            return "(" + conditionText(depth - 1) + ")";
        }
        return sumText(depth) + blank() + "=<>".charAt(random.nextInt(3)) + sumText(depth);
    }

    private String conditionText(int depth) {
        StringBuilder text = new StringBuilder(unitText(depth));
        while (random.nextInt(3) == 0) {
            text.append(blank()).append(random.nextBoolean() ? "&" : "|").append(unitText(depth));
        }
        return text.toString();
    }

    private String lawText() {
        List<String> clauses = new ArrayList<>();
        int deepest = random.nextInt(8);
        for (int k = random.nextInt(3); k >= 0; k--) {
            String condition = random.nextInt(3) > 0 ? conditionText(deepest) + blank() + "?" : "";
            clauses.add("y" + blank() + ":" + blank() + condition + blank() + sumText(deepest));
        }
        return blank() + String.join(";", clauses) + blank();
    }

    private String deepText() {
        StringBuilder text = new StringBuilder("y:");
        for (int k = 3 + random.nextInt(5); k > 0; k--) {
            text.append("!(!(".charAt(random.nextInt(4)));
        }
        text.append(random.nextBoolean() ? "[[h" : "[h");
        return text.toString();
    }

    private String spoilt(String text) {
        StringBuilder spoilt = new StringBuilder(text);
        String signs = "slonthgrcfuwyABCDE0123456789;;:?!()[]=<>+-*/|& " + (char) 233 + (char) 9;
        for (int k = 1 + random.nextInt(2); k > 0; k--) {
            int at = random.nextInt(spoilt.length() + 1);
            char sign = signs.charAt(random.nextInt(signs.length()));
            int way = random.nextInt(4);
            if (way == 0 || at == spoilt.length()) {
                spoilt.insert(at, sign);
            } else if (way == 1) {
                spoilt.deleteCharAt(at);
            } else if (way == 2) {
                spoilt.setCharAt(at, sign);
            } else {
                spoilt.setLength(at);
            }
        }
        return spoilt.toString();
    }

    private void feedAll(String text) {
        int[] words = new int[5];
        for (int from = 0; from < text.length(); from += 20) {
            java.util.Arrays.fill(words, 0);
            for (int k = 0; k < 20 && from + k < text.length(); k++) {
                words[k / 4] |= (text.charAt(from + k) & 255) << 24 - 8 * (k % 4);
            }
            feedWords(words);
        }
    }

    private void feedWords(int[] w) {
        String call = "feed(" + w[0] + ", " + w[1] + ", " + w[2] + ", " + w[3] + ", " + w[4] + ")";
        same(call, real.feed(w[0], w[1], w[2], w[3], w[4]), model.feed(w[0], w[1], w[2], w[3], w[4]));
    }

    private void endAt(int n) {
        same("end(" + n + ")", bit(real.end(n)), model.end(n));
    }

    private void faultOf(int sort) {
        same("fault(" + sort + ")", real.fault(sort), model.fault(sort));
    }

    private void textOf(int sort) {
        same("text(" + sort + ")", real.text(sort), model.text(sort));
    }

    private void tellWall() {
        endAt(0);
        String text = wallText();
        told.add("# " + text);
        feedAll(text);
        textOf(0);
    }

    private void tellText() {
        int sort = random.nextInt(2);
        String text = sort == 0 ? wallText() : random.nextInt(4) == 0 ? deepText() : lawText();
        if (random.nextInt(2) == 0) {
            text = spoilt(text);
        }
        if (random.nextInt(8) > 0) {
            endAt(0);
        }
        told.add("# " + text);
        feedAll(text);
        faultOf(sort);
        faultOf(around(0, 1));
        if (random.nextInt(sort == 0 ? 6 : 2) == 0) {
            textOf(sort);
        }
    }

    // ---- calls

    private void call(int which) {
        if (which < 14) {
            callToChange(which);
        } else if (which < 30) {
            callToAsk(which);
        } else {
            callToAskDearly(which);
        }
    }

    private void callToChange(int which) {
        int a;
        int b;
        int c;
        switch (which) {
            case 0, 1, 2, 3 -> tellText();
            case 4 -> feedWords(new int[] {random.nextInt(), 0, random.nextInt() & 255, 0, 1 << 16});
            case 5 -> endAt(around(0, Math.max(1, model.count(6))));
            case 6 -> textOf(around(0, 1));
            case 7 -> {
                a = around(-1, Math.max(0, model.count(5) - 1));
                same("law(" + a + ")", bit(real.law(a)), model.law(a));
            }
            case 8 -> {
                a = around(0, 23);
                boolean is = random.nextBoolean();
                same("rain(" + a + ", " + is + ")", bit(real.rain(a, is)), model.rain(a, is));
            }
            case 9 -> {
                a = aCell();
                b = random.nextInt(4) == 0 ? around(0, 99) : upTo(30);
                same("warm(" + a + ", " + b + ")", bit(real.warm(a, b)), model.warm(a, b));
            }
            case 10 -> {
                a = anOven();
                b = around(0, 23);
                c = around(0, 23);
                same("bake(" + a + ", " + b + ", " + c + ")", bit(real.bake(a, b, c)), model.bake(a, b, c));
            }
            case 11 -> {
                a = random.nextInt(5) == 0 ? around(1, 72) : around(1, 12);
                same("hours(" + a + ")", real.hours(a), model.hours(a));
            }
            case 12 -> same("undo()", real.undo(), model.undo());
            default -> {
                if (random.nextBoolean()) {
                    same("image()", real.image(), model.image());
                } else {
                    same("back()", real.back(), model.back());
                }
            }
        }
    }

    private void callToAsk(int which) {
        int a = aCell();
        int b;
        switch (which) {
            case 14, 15, 16 -> {
                b = aWhat(3);
                same("cell(" + a + ", " + b + ")", realCell(a, b), model.cell(a, b));
            }
            case 17 -> {
                a = around(0, 3);
                b = aWhat(2);
                same("stone(" + a + ", " + b + ")", real.stone(a, b), model.stone(a, b));
            }
            case 18, 19 -> {
                a = anOven();
                b = aWhat(4);
                same("oven(" + a + ", " + b + ")", real.oven(a, b), model.oven(a, b));
            }
            case 20 -> {
                a = aSleeper();
                b = aWhat(1);
                same("sleeper(" + a + ", " + b + ")", real.sleeper(a, b), model.sleeper(a, b));
            }
            case 21, 22, 23 -> {
                b = around(0, 11);
                same("count(" + b + ")", real.count(b), model.count(b));
            }
            case 24, 25 -> {
                b = aHour(72);
                int c = aWhat(1);
                same("ahead(" + a + ", " + b + ", " + c + ")", real.ahead(a, b, c), model.ahead(a, b, c));
            }
            case 26 -> {
                b = aHour(72);
                same("air(" + b + ")", real.air(b), model.air(b));
            }
            case 27 -> {
                int s = aSleeper();
                same("comfort(" + s + ", " + a + ")", real.comfort(s, a), model.comfort(s, a));
            }
            case 28 -> {
                int s = aSleeper();
                same("choice(" + s + ")", real.choice(s), model.choice(s));
            }
            default -> {
                b = aWhat(1);
                same("most(" + b + ")", real.most(b), model.most(b));
            }
        }
    }

    /** A touch told as it would be with another stone, so that some sorts fit and others don't. */
    private void tellTouch(int a) {
        int n = random.nextInt(8) == 0 ? around(0, 48) : around(0, 4);
        int v = random.nextInt(6) == 0 ? around(0, 99) : n > 0 ? model.ahead(a, n, 0) : upTo(5);
        same("touched(" + a + ", " + n + ", " + v + ")", real.touched(a, n, v), model.touched(a, n, v));
    }

    private void callToAskDearly(int which) {
        int a = aCell();
        int w = aWhat(1);
        int n = aHour(72);
        int o = anOven();
        switch (which) {
            case 30 -> same("changed(" + a + ", " + n + ", " + w + ")", real.changed(a, n, w), model.changed(a, n, w));
            case 31 -> {
                if (model.count(0) * model.count(1) < 5 || random.nextInt(9) == 0) {
                    same("laid(" + w + ")", real.laid(w), model.laid(w));
                }
            }
            case 32 -> tellTouch(a);
            case 33 -> same("fits(" + a + ")", real.fits(a), model.fits(a));
            case 34 -> {
                n = random.nextInt(9) == 0 ? around(0, 24) : around(0, 4);
                same("touch(" + a + ", " + n + ", " + w + ")", real.touch(a, n, w), model.touch(a, n, w));
            }
            case 35 -> same("without(" + o + ", " + n + ")", real.without(o, n), model.without(o, n));
            case 36 -> same("coldest(" + n + ", " + w + ")", real.coldest(n, w), model.coldest(n, w));
            case 37 -> same("frost(" + n + ")", real.frost(n), model.frost(n));
            case 38 -> same("spread(" + (n - 1) + ")", real.spread(n - 1), model.spread(n - 1));
            case 39 -> same("timing(" + o + ", " + a + ", " + w + ")", real.timing(o, a, w), model.timing(o, a, w));
            case 40 -> {
                int to = random.nextInt(4) == 0 ? aCell() : a + (random.nextBoolean() ? 1 : -1) * (random.nextBoolean() ? 1 : 10);
                same("flow(" + a + ", " + to + ", " + n + ")", real.flow(a, to, n), model.flow(a, to, n));
            }
            case 41 -> same("giver(" + n + ", " + w + ")", real.giver(n, w), model.giver(n, w));
            case 42 -> {
                int v = random.nextInt(6) == 0 ? around(0, 99) : upTo(20);
                same("thaw(" + a + ", " + v + ")", real.thaw(a, v), model.thaw(a, v));
            }
            default -> same("steady(" + w + ")", real.steady(w), model.steady(w));
        }
    }
}
