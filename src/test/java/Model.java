import java.util.ArrayList;
import java.util.Arrays;
import java.util.HashMap;
import java.util.HashSet;
import java.util.List;
import java.util.Map;
import java.util.Set;

/**
 * The document told a second time, slowly and with the whole Java library: what WarmWall answers in runs of calls drawn
 * by ModelTest is compared with this. An exception is told as the number THROWS.
 */
final class Model {
    static final int THROWS = 123456789;

    /** Thrown by the parsers: the text cannot go on at a byte. */
    static final class Fault extends RuntimeException {
        final int at;

        Fault(int at) {
            super(null, null, false, false);
            this.at = at;
        }
    }

    /** A told wall. */
    static final class Told {
        final List<Map<Character, Integer>> sorts = new ArrayList<>();
        final List<String> rows = new ArrayList<>();
        final List<Map<Character, Integer>> ovens = new ArrayList<>();
        final List<Map<Character, Integer>> sleepers = new ArrayList<>();

        List<Integer> names() {
            List<Integer> names = new ArrayList<>();
            for (int r = 0; r < rows.size(); r++) {
                for (int c = 0; c < rows.get(r).length(); c++) {
                    names.add(10 * r + c);
                }
            }
            return names;
        }
    }

    interface Worth {
        long of(int h, int r, int c, int d, int s);
    }

    interface Truth {
        boolean of(int h, int r, int c, int d, int s);
    }

    /** All by which an hour goes: cells by their names. */
    static final class Scene {
        Map<Integer, Integer> sort = new HashMap<>();
        Map<Integer, Integer> warmth = new HashMap<>();
        Map<Integer, Integer> felt = new HashMap<>();
        List<Map<Character, Integer>> ovens = new ArrayList<>();
        int hour;

        Scene twin() {
            Scene twin = new Scene();
            twin.sort.putAll(sort);
            twin.warmth.putAll(warmth);
            for (Map<Character, Integer> oven : ovens) {
                twin.ovens.add(new HashMap<>(oven));
            }
            twin.hour = hour;
            return twin;
        }
    }

    private String tape = "";
    private Told wall;
    private Scene scene = new Scene();
    private final List<Worth> laws = new ArrayList<>();
    private int held = -1;
    private final boolean[] rain = new boolean[24];
    private final List<int[]> touched = new ArrayList<>();
    private final List<Scene> gone = new ArrayList<>();
    private Scene image;

    // ---- texts

    private static final class Scan {
        final String text;
        int at;

        Scan(String text) {
            this.text = text;
        }

        void blanks() {
            while (at < text.length() && text.charAt(at) == ' ') {
                at++;
            }
        }

        /** The next sign, or 0 at the end: bytes of 0 are never on a tape. */
        char peek() {
            blanks();
            return at < text.length() ? text.charAt(at) : 0;
        }

        char next(String among) {
            char sign = peek();
            if (sign == 0 || among.indexOf(sign) < 0) {
                throw new Fault(at);
            }
            at++;
            return sign;
        }

        int number(int digits, int least, int most) {
            blanks();
            int first = at;
            while (at < text.length() && "0123456789".indexOf(text.charAt(at)) >= 0) {
                if (at - first == digits) {
                    throw new Fault(at);
                }
                at++;
            }
            if (at == first) {
                throw new Fault(at);
            }
            int value = Integer.parseInt(text.substring(first, at));
            if (value < least || value > most) {
                throw new Fault(at - 1);
            }
            return value;
        }
    }

    private static Told parseWall(String text) {
        Scan scan = new Scan(text);
        Told told = new Told();
        while (true) {
            int start = at(scan);
            switch (scan.next("slon")) {
                case 's' -> told.sorts.add(items(scan, start, told.sorts.size() >= 4,
                        "t", 0, 9, 3, "h", 1, 99, 60, "g", 0, 10, 3));
                case 'o' -> told.ovens.add(items(scan, start, told.ovens.size() >= 3,
                        "r", 0, 3, 0, "c", 0, 5, 0, "f", 0, 23, 4, "u", 0, 23, 7, "h", 0, 20, 8));
                case 'n' -> told.sleepers.add(items(scan, start, told.sleepers.size() >= 5,
                        "w", 0, 99, 5, "f", 0, 9, 0));
                default -> {
                    if (told.rows.size() >= 4) {
                        throw new Fault(start);
                    }
                    StringBuilder row = new StringBuilder().append(scan.next("ABCD"));
                    while ("ABCD".indexOf(scan.peek()) >= 0) {
                        if (row.length() == 6) {
                            throw new Fault(scan.at);
                        }
                        row.append(scan.next("ABCD"));
                    }
                    told.rows.add(row.toString());
                }
            }
            if (scan.peek() == 0) {
                break;
            }
            scan.next(";");
        }
        boolean good = !told.sorts.isEmpty() && !told.rows.isEmpty();
        for (String row : told.rows) {
            good &= row.length() == told.rows.get(0).length();
            good &= row.chars().allMatch(letter -> letter - 'A' < told.sorts.size());
        }
        for (Map<Character, Integer> oven : told.ovens) {
            good &= told.names().contains(10 * oven.get('r') + oven.get('c'));
        }
        if (!good) {
            throw new Fault(text.length());
        }
        return told;
    }

    private static int at(Scan scan) {
        scan.blanks();
        return scan.at;
    }

    private static Map<Character, Integer> items(Scan scan, int start, boolean full, Object... kinds) {
        if (full) {
            throw new Fault(start);
        }
        Map<Character, Integer> items = new HashMap<>();
        Set<Character> seen = new HashSet<>();
        StringBuilder letters = new StringBuilder();
        for (int k = 0; k < kinds.length; k += 4) {
            letters.append(kinds[k]);
            items.put(((String) kinds[k]).charAt(0), (Integer) kinds[k + 3]);
        }
        while (scan.peek() != 0 && letters.indexOf("" + scan.peek()) >= 0) {
            char letter = scan.peek();
            if (!seen.add(letter)) {
                throw new Fault(scan.at);
            }
            scan.at++;
            int k = 4 * letters.indexOf("" + letter);
            items.put(letter, scan.number(2, (Integer) kinds[k + 1], (Integer) kinds[k + 2]));
        }
        return items;
    }

    private static Worth parseLaw(String text) {
        Scan scan = new Scan(text);
        List<Truth> truths = new ArrayList<>();
        List<Worth> worths = new ArrayList<>();
        while (true) {
            scan.next("y");
            scan.next(":");
            Worth first = null;
            Truth truth = (h, r, c, d, s) -> true;
            boolean asks = scan.peek() == '!' || scan.peek() == '(';
            if (!asks) {
                first = sum(scan, 0);
                asks = scan.peek() != 0 && "=<>".indexOf(scan.peek()) >= 0;
            }
            if (asks) {
                truth = condition(scan, 0, first);
                scan.next("?");
                first = sum(scan, 0);
            }
            truths.add(truth);
            worths.add(first);
            if (scan.peek() == 0) {
                break;
            }
            scan.next(";");
        }
        return (h, r, c, d, s) -> {
            for (int k = 0; k < truths.size(); k++) {
                if (truths.get(k).of(h, r, c, d, s)) {
                    return worths.get(k).of(h, r, c, d, s);
                }
            }
            return 0;
        };
    }

    private static Truth condition(Scan scan, int depth, Worth begun) {
        Truth all = truth(scan, depth, begun);
        while (scan.peek() == '|') {
            scan.at++;
            Truth left = all;
            Truth right = truth(scan, depth, null);
            all = (h, r, c, d, s) -> left.of(h, r, c, d, s) || right.of(h, r, c, d, s);
        }
        return all;
    }

    private static Truth truth(Scan scan, int depth, Worth begun) {
        Truth all = unit(scan, depth, begun);
        while (scan.peek() == '&') {
            scan.at++;
            Truth left = all;
            Truth right = unit(scan, depth, null);
            all = (h, r, c, d, s) -> left.of(h, r, c, d, s) && right.of(h, r, c, d, s);
        }
        return all;
    }

    private static void open(Scan scan, int depth) {
        if (depth >= 6) {
            throw new Fault(scan.at);
        }
        scan.at++;
    }

    private static Truth unit(Scan scan, int depth, Worth begun) {
        if (begun == null && scan.peek() == '!') {
            open(scan, depth);
            Truth inner = unit(scan, depth + 1, null);
            return (h, r, c, d, s) -> !inner.of(h, r, c, d, s);
        }
        if (begun == null && scan.peek() == '(') {
            open(scan, depth);
            Truth inner = condition(scan, depth + 1, null);
            scan.next(")");
            return inner;
        }
        Worth left = begun == null ? sum(scan, depth) : begun;
        char sign = scan.next("=<>");
        Worth right = sum(scan, depth);
        return (h, r, c, d, s) -> {
            int order = Long.compare(left.of(h, r, c, d, s), right.of(h, r, c, d, s));
            return sign == '=' ? order == 0 : sign == '<' ? order < 0 : order > 0;
        };
    }

    private static long held(long value) {
        return Math.max(-1000000, Math.min(1000000, value));
    }

    private static Worth sum(Scan scan, int depth) {
        Worth all = term(scan, depth);
        while (scan.peek() == '+' || scan.peek() == '-') {
            long way = scan.next("+-") == '+' ? 1 : -1;
            Worth left = all;
            Worth right = term(scan, depth);
            all = (h, r, c, d, s) -> held(left.of(h, r, c, d, s) + way * right.of(h, r, c, d, s));
        }
        return all;
    }

    private static Worth term(Scan scan, int depth) {
        Worth all = atom(scan, depth);
        while (scan.peek() == '*' || scan.peek() == '/') {
            boolean times = scan.next("*/") == '*';
            Worth left = all;
            Worth right = atom(scan, depth);
            all = (h, r, c, d, s) -> {
                long a = left.of(h, r, c, d, s);
                long b = right.of(h, r, c, d, s);
                return held(times ? a * b : b == 0 ? 0 : a / b);
            };
        }
        return all;
    }

    private static Worth atom(Scan scan, int depth) {
        switch (scan.peek()) {
            case '[': {
                open(scan, depth);
                Worth inner = sum(scan, depth + 1);
                scan.next("]");
                return inner;
            }
            case 'h':
                scan.at++;
                return (h, r, c, d, s) -> h;
            case 'r':
                scan.at++;
                return (h, r, c, d, s) -> r;
            case 'c':
                scan.at++;
                return (h, r, c, d, s) -> c;
            case 'd':
                scan.at++;
                return (h, r, c, d, s) -> d;
            case 's':
                scan.at++;
                return (h, r, c, d, s) -> s;
            default: {
                int number = scan.number(4, 0, 9999);
                return (h, r, c, d, s) -> number;
            }
        }
    }

    int feed(int a, int b, int c, int d, int e) {
        StringBuilder more = new StringBuilder(tape);
        for (int word : new int[] {a, b, c, d, e}) {
            for (int k = 3; k >= 0; k--) {
                int sign = (word >> 8 * k) & 0xff;
                if (sign != 0) {
                    more.append((char) sign);
                }
            }
        }
        if (more.length() > 160) {
            return -1;
        }
        tape = more.toString();
        return tape.length();
    }

    int end(int n) {
        if (n < 0 || n > tape.length()) {
            return 0;
        }
        tape = tape.substring(0, n);
        return 1;
    }

    int fault(int sort) {
        if (sort != 0 && sort != 1) {
            return -2;
        }
        try {
            Object ignored = sort == 0 ? parseWall(tape) : parseLaw(tape);
            return -1;
        } catch (Fault fault) {
            return fault.at;
        }
    }

    int text(int sort) {
        if (sort < 0 || sort > 1 || sort == 1 && laws.size() == 4) {
            return -1;
        }
        try {
            if (sort == 1) {
                laws.add(parseLaw(tape));
                tape = "";
                return laws.size() - 1;
            }
            wall = parseWall(tape);
        } catch (Fault fault) {
            return -1;
        }
        tape = "";
        scene = new Scene();
        for (int name : wall.names()) {
            scene.sort.put(name, wall.rows.get(name / 10).charAt(name % 10) - 'A');
            scene.warmth.put(name, 0);
        }
        for (Map<Character, Integer> oven : wall.ovens) {
            scene.ovens.add(new HashMap<>(oven));
        }
        Arrays.fill(rain, false);
        touched.clear();
        gone.clear();
        image = null;
        return wall.names().size();
    }

    // ---- an hour

    private int sun(Scene scene, int name) {
        int h = scene.hour % 24;
        if (held < 0) {
            return h >= 8 && h <= 15 ? 5 : 0;
        }
        long worth = laws.get(held).of(h, name / 10, name % 10, scene.hour / 24, scene.sort.get(name));
        return (int) Math.max(0, Math.min(9, worth));
    }

    private List<Integer> beside(int name) {
        List<Integer> beside = new ArrayList<>();
        for (int other : wall.names()) {
            int apart = Math.abs(other / 10 - name / 10) + Math.abs(other % 10 - name % 10);
            if (apart == 1) {
                beside.add(other);
            }
        }
        return beside;
    }

    private static boolean burns(Map<Character, Integer> oven, int hour) {
        for (int h = oven.get('f'); h != oven.get('u'); h = (h + 1) % 24) {
            if (h == hour % 24) {
                return true;
            }
        }
        return false;
    }

    private int gives(Scene scene, int name) {
        return scene.warmth.get(name) * wall.sorts.get(scene.sort.get(name)).get('g') / 10;
    }

    private void pass(Scene scene) {
        Map<Integer, Integer> change = new HashMap<>();
        Map<Integer, Integer> felt = new HashMap<>();
        boolean rains = rain[scene.hour % 24];
        for (int name : wall.names()) {
            int gives = gives(scene, name);
            int kept = gives;
            change.merge(name, -gives, Integer::sum);
            for (int other : beside(name)) {
                change.merge(other, gives / 4, Integer::sum);
                kept -= gives / 4;
            }
            felt.put(name, kept);
            if (!rains) {
                int takes = wall.sorts.get(scene.sort.get(name)).get('t');
                change.merge(name, sun(scene, name) * takes, Integer::sum);
            }
        }
        for (Map<Character, Integer> oven : scene.ovens) {
            if (burns(oven, scene.hour)) {
                int name = 10 * oven.get('r') + oven.get('c');
                change.merge(name, oven.get('h'), Integer::sum);
                for (int other : beside(name)) {
                    change.merge(other, oven.get('h') / 2, Integer::sum);
                }
            }
        }
        for (int name : wall.names()) {
            int warmth = scene.warmth.get(name) + change.get(name);
            if (rains) {
                warmth = Math.max(0, warmth - 2);
            }
            int holds = wall.sorts.get(scene.sort.get(name)).get('h');
            if (warmth > holds) {
                felt.merge(name, warmth - holds, Integer::sum);
                warmth = holds;
            }
            scene.warmth.put(name, warmth);
        }
        scene.felt = felt;
        scene.hour++;
    }

    private Scene behind(Scene from, int n) {
        Scene scene = from.twin();
        for (int k = 0; k < n; k++) {
            pass(scene);
        }
        return scene;
    }

    private Map<Integer, Integer> night(Scene from) {
        Scene scene = from.twin();
        while (scene.hour % 24 != 20) {
            pass(scene);
        }
        Map<Integer, Integer> least = new HashMap<>();
        for (int k = 0; k < 9; k++) {
            pass(scene);
            for (int name : wall.names()) {
                least.merge(name, scene.felt.get(name), Math::min);
            }
        }
        return least;
    }

    // ---- as it is

    private boolean is(int cell) {
        return wall != null && wall.names().contains(cell);
    }

    private static boolean in(int n, int least, int most) {
        return least <= n && n <= most;
    }

    int cell(int cell, int what) {
        if (!is(cell) || !in(what, 0, 3)) {
            return THROWS;
        }
        return switch (what) {
            case 0 -> scene.sort.get(cell);
            case 1 -> scene.warmth.get(cell);
            case 2 -> sun(scene, cell);
            default -> behind(scene, 1).felt.get(cell);
        };
    }

    int stone(int sort, int what) {
        if (wall == null || !in(sort, 0, wall.sorts.size() - 1) || !in(what, 0, 2)) {
            return -1;
        }
        return wall.sorts.get(sort).get("thg".charAt(what));
    }

    int oven(int oven, int what) {
        if (!in(oven, 0, scene.ovens.size() - 1) || !in(what, 0, 4)) {
            return -1;
        }
        Map<Character, Integer> it = scene.ovens.get(oven);
        return switch (what) {
            case 0 -> 10 * it.get('r') + it.get('c');
            case 4 -> burns(it, scene.hour) ? 1 : 0;
            default -> it.get("?fuh".charAt(what));
        };
    }

    int sleeper(int sleeper, int what) {
        if (wall == null || !in(sleeper, 0, wall.sleepers.size() - 1) || !in(what, 0, 1)) {
            return -1;
        }
        return wall.sleepers.get(sleeper).get("wf".charAt(what));
    }

    int law(int law) {
        if (!in(law, -1, laws.size() - 1)) {
            return 0;
        }
        held = law;
        return 1;
    }

    int rain(int hour, boolean is) {
        if (wall == null || !in(hour, 0, 23) || rain[hour] == is) {
            return 0;
        }
        rain[hour] = is;
        return 1;
    }

    int warm(int cell, int v) {
        if (!is(cell) || !in(v, 0, wall.sorts.get(scene.sort.get(cell)).get('h'))) {
            return 0;
        }
        scene.warmth.put(cell, v);
        return 1;
    }

    int bake(int oven, int from, int until) {
        if (!in(oven, 0, scene.ovens.size() - 1) || !in(from, 0, 23) || !in(until, 0, 23)) {
            return 0;
        }
        scene.ovens.get(oven).put('f', from);
        scene.ovens.get(oven).put('u', until);
        return 1;
    }

    int hours(int n) {
        if (wall == null || !in(n, 1, 72)) {
            return -1;
        }
        for (int k = 0; k < n; k++) {
            gone.add(scene.twin());
            pass(scene);
        }
        while (gone.size() > 60) {
            gone.remove(0);
        }
        return scene.hour;
    }

    private int recall(Scene past) {
        scene.warmth.putAll(past.warmth);
        scene.hour = past.hour;
        return scene.hour;
    }

    int undo() {
        return gone.isEmpty() ? -1 : recall(gone.remove(gone.size() - 1));
    }

    int image() {
        if (wall == null) {
            return -1;
        }
        image = scene.twin();
        return scene.hour;
    }

    int back() {
        if (image == null) {
            return -1;
        }
        gone.clear();
        return recall(image);
    }

    int count(int what) {
        int bits = 0;
        for (int h = 0; h < 24; h++) {
            bits += rain[h] ? 1 << h : 0;
        }
        return switch (what) {
            case 0 -> wall == null ? 0 : wall.rows.size();
            case 1 -> wall == null ? 0 : wall.rows.get(0).length();
            case 2 -> wall == null ? 0 : wall.sorts.size();
            case 3 -> scene.ovens.size();
            case 4 -> wall == null ? 0 : wall.sleepers.size();
            case 5 -> laws.size();
            case 6 -> tape.length();
            case 7 -> scene.hour;
            case 8 -> held;
            case 9 -> touched.size();
            case 10 -> gone.size();
            case 11 -> bits;
            default -> -1000000;
        };
    }

    // ---- apart

    int ahead(int cell, int n, int what) {
        if (!is(cell) || !in(n, 1, 72) || !in(what, 0, 1)) {
            return -1;
        }
        Scene then = behind(scene, n);
        return what == 0 ? then.warmth.get(cell) : then.felt.get(cell);
    }

    private int airOf(Scene from, int n) {
        Scene scene = from.twin();
        int sum = 0;
        for (int k = 0; k < n; k++) {
            pass(scene);
            sum += scene.felt.values().stream().mapToInt(Integer::intValue).sum();
        }
        return sum;
    }

    int air(int n) {
        return wall == null || !in(n, 1, 72) ? -1 : airOf(scene, n);
    }

    int comfort(int sleeper, int cell) {
        if (!is(cell) || !in(sleeper, 0, wall.sleepers.size() - 1)) {
            return -1;
        }
        return night(scene).get(cell) + wall.sleepers.get(sleeper).get('f');
    }

    int choice(int sleeper) {
        if (wall == null || !in(sleeper, 0, wall.sleepers.size() - 1)) {
            return -1;
        }
        List<Integer> free = wall.names();
        Map<Integer, Integer> night = night(scene);
        // the sort is stable: of several the lowest stays ahead
        free.sort((a, b) -> night.get(b) - night.get(a));
        return sleeper < free.size() ? free.get(sleeper) : -1;
    }

    int most(int what) {
        if (wall == null || !in(what, 0, 1)) {
            return -1;
        }
        Map<Integer, Integer> night = night(scene);
        int best = 0;
        for (int set = 0; set < 1 << wall.sleepers.size(); set++) {
            boolean more = Integer.bitCount(set) >= Integer.bitCount(best);
            if (more && seats(set, 0, night, new HashSet<>())) {
                best = set;
            }
        }
        return what == 0 ? Integer.bitCount(best) : best;
    }

    /** Tries every cell for every sleeper. */
    private boolean seats(int set, int from, Map<Integer, Integer> night, Set<Integer> taken) {
        if (from == wall.sleepers.size()) {
            return true;
        }
        if ((set >> from & 1) == 0) {
            return seats(set, from + 1, night, taken);
        }
        Map<Character, Integer> one = wall.sleepers.get(from);
        Set<Integer> tried = new HashSet<>();
        for (int name : wall.names()) {
            boolean warm = night.get(name) + one.get('f') >= one.get('w');
            // cells that are felt alike serve alike
            if (warm && !taken.contains(name) && tried.add(night.get(name))) {
                taken.add(name);
                if (seats(set, from + 1, night, taken)) {
                    return true;
                }
                taken.remove(name);
            }
        }
        return false;
    }

    private Scene with(int cell, int sort) {
        Scene other = scene.twin();
        other.sort.put(cell, sort);
        other.warmth.put(cell, Math.min(other.warmth.get(cell), wall.sorts.get(sort).get('h')));
        return other;
    }

    int changed(int cell, int n, int what) {
        if (!is(cell) || !in(n, 1, 72) || !in(what, 0, 1)) {
            return -1;
        }
        int[] best = {-1, -1};
        for (int name : wall.names()) {
            for (int sort = 0; sort < wall.sorts.size(); sort++) {
                int felt = behind(with(name, sort), n).felt.get(cell);
                if (felt > best[1]) {
                    best = new int[] {10 * name + sort, felt};
                }
            }
        }
        return best[what];
    }

    int laid(int what) {
        if (wall == null || wall.names().size() > 6 || wall.sorts.size() > 3 || !in(what, 0, 1)) {
            return -1000000;
        }
        int[] best = {0, -1};
        lay(0, 0, scene.twin(), best);
        return best[what];
    }

    private void lay(int from, int digits, Scene other, int[] best) {
        List<Integer> names = wall.names();
        if (from == names.size()) {
            int least = night(other).values().stream().min(Integer::compare).get();
            if (least > best[1]) {
                best[0] = digits;
                best[1] = least;
            }
            return;
        }
        for (int sort = 0; sort < wall.sorts.size(); sort++) {
            other.sort.put(names.get(from), sort);
            other.warmth.put(names.get(from), 0);
            lay(from + 1, digits * 10 + sort + 1, other, best);
        }
    }

    int touched(int cell, int n, int v) {
        if (!is(cell) || !in(n, 0, 48) || !in(v, 0, 99) || touched.size() == 20) {
            return -1;
        }
        touched.add(new int[] {cell, n, v});
        return touched.size();
    }

    private List<Integer> fitting(int cell) {
        List<Integer> fitting = new ArrayList<>();
        for (int sort = 0; sort < wall.sorts.size(); sort++) {
            boolean fits = true;
            for (int[] touch : touched) {
                fits = fits && behind(with(cell, sort), touch[1]).warmth.get(touch[0]) == touch[2];
            }
            if (fits) {
                fitting.add(sort);
            }
        }
        return fitting;
    }

    int fits(int cell) {
        return is(cell) ? fitting(cell).stream().mapToInt(sort -> 1 << sort).sum() : -1;
    }

    int touch(int cell, int n, int what) {
        if (!is(cell) || !in(n, 0, 24) || !in(what, 0, 1) || fitting(cell).isEmpty()) {
            return -1;
        }
        List<Integer> fitting = fitting(cell);
        int[] best = {-1, 0};
        for (int hour = 0; hour <= n; hour++) {
            List<Scene> then = new ArrayList<>();
            for (int sort : fitting) {
                then.add(behind(with(cell, sort), hour));
            }
            for (int name : wall.names()) {
                int unlike = (int) then.stream().map(one -> one.warmth.get(name)).distinct().count();
                if (unlike > best[1]) {
                    best = new int[] {100 * hour + name, unlike};
                }
            }
        }
        return best[what];
    }

    int without(int oven, int n) {
        if (!in(oven, 0, scene.ovens.size() - 1) || !in(n, 1, 72)) {
            return -1000000;
        }
        Scene other = scene.twin();
        other.ovens.remove(oven);
        return airOf(scene, n) - airOf(other, n);
    }

    int coldest(int n, int what) {
        if (wall == null || !in(n, 1, 72) || !in(what, 0, 1)) {
            return -1;
        }
        int[] best = {0, Integer.MAX_VALUE};
        Scene other = scene.twin();
        for (int k = 1; k <= n; k++) {
            pass(other);
            int sum = other.warmth.values().stream().mapToInt(Integer::intValue).sum();
            if (sum < best[1]) {
                best = new int[] {k, sum};
            }
        }
        return best[what];
    }

    int frost(int n) {
        if (wall == null || !in(n, 1, 72)) {
            return -1;
        }
        Set<Integer> frozen = new HashSet<>();
        Scene other = scene.twin();
        for (int k = 1; k <= n; k++) {
            pass(other);
            other.warmth.forEach((name, warmth) -> {
                if (warmth == 0) {
                    frozen.add(name);
                }
            });
        }
        return frozen.size();
    }

    int spread(int n) {
        if (wall == null || !in(n, 0, 72)) {
            return -1;
        }
        List<Integer> warmths = new ArrayList<>(behind(scene, n).warmth.values());
        warmths.sort(null);
        return warmths.get(warmths.size() - 1) - warmths.get(0);
    }

    int timing(int oven, int cell, int what) {
        if (!is(cell) || !in(oven, 0, scene.ovens.size() - 1) || !in(what, 0, 1)) {
            return -1;
        }
        int[] best = {-1, -1};
        for (int from = 0; from < 24; from++) {
            Scene other = scene.twin();
            Map<Character, Integer> it = other.ovens.get(oven);
            it.put('u', Math.floorMod(it.get('u') - it.get('f') + from, 24));
            it.put('f', from);
            int felt = night(other).get(cell);
            if (felt > best[1]) {
                best = new int[] {from, felt};
            }
        }
        return best[what];
    }

    int flow(int from, int to, int n) {
        if (!is(from) || !is(to) || !beside(from).contains(to) || !in(n, 1, 72)) {
            return -1;
        }
        int sum = 0;
        for (int k = 0; k < n; k++) {
            sum += gives(behind(scene, k), from) / 4;
        }
        return sum;
    }

    int giver(int n, int what) {
        if (wall == null || !in(n, 1, 72) || !in(what, 0, 1)) {
            return -1;
        }
        Map<Integer, Integer> sums = new HashMap<>();
        Scene other = scene.twin();
        for (int k = 0; k < n; k++) {
            pass(other);
            other.felt.forEach((name, felt) -> sums.merge(name, felt, Integer::sum));
        }
        int[] best = {-1, -1};
        for (int name : wall.names()) {
            if (sums.get(name) > best[1]) {
                best = new int[] {name, sums.get(name)};
            }
        }
        return best[what];
    }

    int thaw(int cell, int v) {
        if (!is(cell) || !in(v, 0, 99)) {
            return -1;
        }
        Scene other = scene.twin();
        for (int k = 0; k <= 72; k++) {
            if (other.warmth.get(cell) >= v) {
                return k;
            }
            pass(other);
        }
        return -1;
    }

    int steady(int what) {
        if (wall == null || !in(what, 0, 1)) {
            return -1;
        }
        List<Map<Integer, Integer>> days = new ArrayList<>();
        Scene other = scene.twin();
        for (int day = 0; day <= 20; day++) {
            int like = days.indexOf(other.warmth);
            if (like >= 0) {
                return what == 0 ? like : day - like;
            }
            days.add(new HashMap<>(other.warmth));
            for (int k = 0; k < 24; k++) {
                pass(other);
            }
        }
        return -1;
    }
}
