import java.util.NoSuchElementException;

/**
 * A wall of stones that takes warmth by day and answers at night: told as a text, asked by numbers.
 *
 * <p>All rows are made once, with the object, and used again by every call: a run of calls makes nothing more.
 */
public final class WarmWall {
    public static final int NONE = -1;
    public static final int HIDDEN = -1000000;

    private static final int TAPE_BYTES = 160;
    private static final int MOST_ROWS = 4;
    private static final int MOST_COLUMNS = 6;
    private static final int MOST_CELLS = 24;
    private static final int MOST_SORTS = 4;
    private static final int MOST_OVENS = 3;
    private static final int MOST_SLEEPERS = 5;
    private static final int MOST_LAWS = 4;
    private static final int SIDES = 4;
    private static final int DAY = 24;
    private static final int FARTHEST = 72;
    private static final int TOUCH_FARTHEST = 24;
    private static final int STEADY_DAYS = 20;
    private static final int LAID_CELLS = 6;
    private static final int LAID_SORTS = 3;

    private static final int TAKES = 0;
    private static final int HOLDS = 1;
    private static final int GIVES = 2;
    private static final int OVEN_ROW = 0;
    private static final int OVEN_COLUMN = 1;
    private static final int OVEN_FROM = 2;
    private static final int OVEN_UNTIL = 3;
    private static final int OVEN_HEAT = 4;
    private static final int NEED = 0;
    private static final int FUR = 1;

    private final Tape tape;
    private final WallReader wallReader;
    private final LawReader lawReader;
    private final Sky sky;
    private final Course now;
    private final Course apart;
    private final Past past;
    private final Touches touches;
    /** Warmths behind each hour, by sorts that fit. */
    private final int[] trials;
    /** Warmths behind each day. */
    private final int[] mornings;
    private Wall wall;
    /** What the reader writes to, so that a text with a fault leaves the wall alone; the two change places. */
    private Wall draft;

    public WarmWall() {
        tape = new Tape();
        wallReader = new WallReader(tape);
        lawReader = new LawReader(tape);
        sky = new Sky();
        now = new Course();
        apart = new Course();
        past = new Past();
        touches = new Touches();
        trials = new int[MOST_SORTS * (TOUCH_FARTHEST + 1) * MOST_CELLS];
        mornings = new int[(STEADY_DAYS + 1) * MOST_CELLS];
        wall = new Wall();
        draft = new Wall();
    }

    // ---- the tape and its texts

    public int feed(int a, int b, int c, int d, int e) {
        int more = Tape.bytesIn(a) + Tape.bytesIn(b) + Tape.bytesIn(c) + Tape.bytesIn(d) + Tape.bytesIn(e);
        if (tape.length + more > TAPE_BYTES) {
            return NONE;
        }
        tape.append(a);
        tape.append(b);
        tape.append(c);
        tape.append(d);
        tape.append(e);
        return tape.length;
    }

    public boolean end(int n) {
        if (!within(n, 0, tape.length)) {
            return false;
        }
        tape.length = n;
        return true;
    }

    public int fault(int sort) {
        switch (sort) {
            case 0:
                return wallReader.faultOf(draft);
            case 1:
                return lawReader.faultOf(sky.draft());
            default:
                return -2;
        }
    }

    public int text(int sort) {
        switch (sort) {
            case 0:
                return newWall();
            case 1:
                return newLaw();
            default:
                return NONE;
        }
    }

    private int newWall() {
        if (wallReader.faultOf(draft) != NONE) {
            return NONE;
        }
        Wall told = draft;
        draft = wall;
        wall = told;
        wall.lay();
        now.begin(wall);
        past.forget();
        touches.told = 0;
        sky.rainHours = 0;
        tape.length = 0;
        return wall.cells;
    }

    private int newLaw() {
        if (sky.lawsTold == MOST_LAWS || lawReader.faultOf(sky.draft()) != NONE) {
            return NONE;
        }
        tape.length = 0;
        sky.lawsTold++;
        return sky.lawsTold - 1;
    }

    // ---- what is told of the wall as it is

    public int cell(int cell, int what) throws NoSuchElementException {
        int at = wall.indexOf(cell);
        if (at == NONE) {
            throw new NoSuchElementException("no such cell");
        }
        switch (what) {
            case 0:
                return now.sorts[at];
            case 1:
                return now.warmth[at];
            case 2:
                return sky.sunOn(now.hour, wall.rowOf[at], wall.columnOf[at], now.sorts[at]);
            case 3:
                goAhead(1);
                return apart.felt[at];
            default:
                throw new NoSuchElementException("no such thing of a cell");
        }
    }

    public int stone(int sort, int what) {
        return wall.stones.number(sort, what);
    }

    public int oven(int oven, int what) {
        if (!wall.ovens.has(oven)) {
            return NONE;
        }
        switch (what) {
            case 0:
                return 10 * wall.ovens.number(oven, OVEN_ROW) + wall.ovens.number(oven, OVEN_COLUMN);
            case 1:
                return now.from[oven];
            case 2:
                return now.until[oven];
            case 3:
                return wall.ovens.number(oven, OVEN_HEAT);
            case 4:
                return now.burns(oven) ? 1 : 0;
            default:
                return NONE;
        }
    }

    public int sleeper(int sleeper, int what) {
        return wall.sleepers.number(sleeper, what);
    }

    public int count(int what) {
        switch (what) {
            case 0:
                return wall.rows;
            case 1:
                return wall.columns;
            case 2:
                return wall.stones.told;
            case 3:
                return wall.ovens.told;
            case 4:
                return wall.sleepers.told;
            case 5:
                return sky.lawsTold;
            case 6:
                return tape.length;
            case 7:
                return now.hour;
            case 8:
                return sky.lawHeld;
            case 9:
                return touches.told;
            case 10:
                return past.kept;
            case 11:
                return sky.rainHours;
            default:
                return HIDDEN;
        }
    }

    // ---- what is told by hand, and hours that go by

    public boolean law(int law) {
        if (!within(law, NONE, sky.lawsTold - 1)) {
            return false;
        }
        sky.obey(law);
        return true;
    }

    public boolean rain(int hour, boolean is) {
        if (wall.cells == 0 || !within(hour, 0, DAY - 1) || sky.rainsAt(hour) == is) {
            return false;
        }
        sky.rainHours ^= 1 << hour;
        return true;
    }

    public boolean warm(int cell, int v) {
        int at = wall.indexOf(cell);
        if (at == NONE || !within(v, 0, wall.stones.number(now.sorts[at], HOLDS))) {
            return false;
        }
        now.warmth[at] = v;
        return true;
    }

    public boolean bake(int oven, int from, int until) {
        if (!wall.ovens.has(oven) || !within(from, 0, DAY - 1) || !within(until, 0, DAY - 1)) {
            return false;
        }
        now.from[oven] = from;
        now.until[oven] = until;
        return true;
    }

    public int hours(int n) {
        if (wall.cells == 0 || !within(n, 1, FARTHEST)) {
            return NONE;
        }
        for (int hour = 0; hour < n; hour++) {
            past.keep(now);
            now.step(wall, sky);
        }
        return now.hour;
    }

    public int undo() {
        return past.takeBack(now) ? now.hour : NONE;
    }

    public int image() {
        if (wall.cells == 0) {
            return NONE;
        }
        past.draw(now);
        return now.hour;
    }

    public int back() {
        return past.comeBack(now) ? now.hour : NONE;
    }

    // ---- hours ahead

    public int ahead(int cell, int n, int what) {
        int at = wall.indexOf(cell);
        if (at == NONE || !within(n, 1, FARTHEST) || !within(what, 0, 1)) {
            return NONE;
        }
        goAhead(n);
        return what == 0 ? apart.warmth[at] : apart.felt[at];
    }

    public int air(int n) {
        if (wall.cells == 0 || !within(n, 1, FARTHEST)) {
            return NONE;
        }
        apart.follow(now);
        return airAhead(n);
    }

    public int without(int oven, int n) {
        if (!wall.ovens.has(oven) || !within(n, 1, FARTHEST)) {
            return HIDDEN;
        }
        apart.follow(now);
        int with = airAhead(n);
        apart.follow(now);
        // an oven whose hours are alike never burns
        apart.from[oven] = 0;
        apart.until[oven] = 0;
        return with - airAhead(n);
    }

    public int coldest(int n, int what) {
        if (wall.cells == 0 || !within(n, 1, FARTHEST) || !within(what, 0, 1)) {
            return NONE;
        }
        int first = NONE;
        int least = 0;
        apart.follow(now);
        for (int hour = 1; hour <= n; hour++) {
            apart.step(wall, sky);
            int sum = sumOf(apart.warmth);
            if (first == NONE || sum < least) {
                first = hour;
                least = sum;
            }
        }
        return what == 0 ? first : least;
    }

    public int frost(int n) {
        if (wall.cells == 0 || !within(n, 1, FARTHEST)) {
            return NONE;
        }
        int frozen = 0;
        apart.follow(now);
        for (int hour = 1; hour <= n; hour++) {
            apart.step(wall, sky);
            for (int at = 0; at < wall.cells; at++) {
                if (apart.warmth[at] == 0) {
                    frozen |= 1 << at;
                }
            }
        }
        return Integer.bitCount(frozen);
    }

    public int spread(int n) {
        if (wall.cells == 0 || !within(n, 0, FARTHEST)) {
            return NONE;
        }
        goAhead(n);
        int least = apart.warmth[0];
        int greatest = least;
        for (int at = 1; at < wall.cells; at++) {
            least = Math.min(least, apart.warmth[at]);
            greatest = Math.max(greatest, apart.warmth[at]);
        }
        return greatest - least;
    }

    public int flow(int from, int to, int n) {
        int giver = wall.indexOf(from);
        int taker = wall.indexOf(to);
        if (giver == NONE || taker == NONE || !wall.areBeside(giver, taker) || !within(n, 1, FARTHEST)) {
            return NONE;
        }
        int sum = 0;
        apart.follow(now);
        for (int hour = 0; hour < n; hour++) {
            sum += apart.givenBy(giver, wall) / SIDES;
            apart.step(wall, sky);
        }
        return sum;
    }

    public int giver(int n, int what) {
        if (wall.cells == 0 || !within(n, 1, FARTHEST) || !within(what, 0, 1)) {
            return NONE;
        }
        apart.follow(now);
        airAhead(n);
        int best = 0;
        for (int at = 1; at < wall.cells; at++) {
            if (apart.feltInAll[at] > apart.feltInAll[best]) {
                best = at;
            }
        }
        return what == 0 ? wall.nameOf(best) : apart.feltInAll[best];
    }

    public int thaw(int cell, int v) {
        int at = wall.indexOf(cell);
        if (at == NONE || !within(v, 0, 99)) {
            return NONE;
        }
        apart.follow(now);
        for (int hour = 0; hour < FARTHEST; hour++) {
            if (apart.warmth[at] >= v) {
                return hour;
            }
            apart.step(wall, sky);
        }
        return apart.warmth[at] >= v ? FARTHEST : NONE;
    }

    public int steady(int what) {
        if (wall.cells == 0 || !within(what, 0, 1)) {
            return NONE;
        }
        apart.follow(now);
        for (int day = 0; day <= STEADY_DAYS; day++) {
            for (int at = 0; at < wall.cells; at++) {
                mornings[day * MOST_CELLS + at] = apart.warmth[at];
            }
            int like = dayLike(day);
            if (like != NONE) {
                return what == 0 ? like : day - like;
            }
            for (int hour = 0; hour < DAY; hour++) {
                apart.step(wall, sky);
            }
        }
        return NONE;
    }

    private int dayLike(int day) {
        for (int other = 0; other < day; other++) {
            int alike = 0;
            for (int at = 0; at < wall.cells; at++) {
                if (mornings[other * MOST_CELLS + at] == mornings[day * MOST_CELLS + at]) {
                    alike++;
                }
            }
            if (alike == wall.cells) {
                return other;
            }
        }
        return NONE;
    }

    // ---- the night

    public int comfort(int sleeper, int cell) {
        int at = wall.indexOf(cell);
        if (at == NONE || !wall.sleepers.has(sleeper)) {
            return NONE;
        }
        nightAhead();
        return apart.leastFelt[at] + wall.sleepers.number(sleeper, FUR);
    }

    public int choice(int sleeper) {
        if (!wall.sleepers.has(sleeper)) {
            return NONE;
        }
        nightAhead();
        int taken = 0;
        int best = NONE;
        for (int chooser = 0; chooser <= sleeper; chooser++) {
            best = bestFree(taken);
            if (best == NONE) {
                return NONE;
            }
            taken |= 1 << best;
        }
        return wall.nameOf(best);
    }

    /** Fur is the same at all cells, so that no choice depends on it. */
    private int bestFree(int taken) {
        int best = NONE;
        for (int at = 0; at < wall.cells; at++) {
            boolean isFree = (taken >> at & 1) == 0;
            if (isFree && (best == NONE || apart.leastFelt[at] > apart.leastFelt[best])) {
                best = at;
            }
        }
        return best;
    }

    public int most(int what) {
        if (wall.cells == 0 || !within(what, 0, 1)) {
            return NONE;
        }
        nightAhead();
        int best = 0;
        for (int set = 1; set < 1 << wall.sleepers.told; set++) {
            if (Integer.bitCount(set) >= Integer.bitCount(best) && allSleepWarm(set)) {
                best = set;
            }
        }
        return what == 0 ? Integer.bitCount(best) : best;
    }

    /**
     * A cell that is warm enough for one is so for all who ask less; so all find one, if for each of them there are as
     * many such cells as there are sleepers who ask that or more.
     */
    private boolean allSleepWarm(int set) {
        for (int one = 0; one < wall.sleepers.told; one++) {
            if ((set >> one & 1) == 1 && warmCells(askedBy(one)) < sleepersWhoAsk(askedBy(one), set)) {
                return false;
            }
        }
        return true;
    }

    private int askedBy(int sleeper) {
        return wall.sleepers.number(sleeper, NEED) - wall.sleepers.number(sleeper, FUR);
    }

    private int sleepersWhoAsk(int felt, int set) {
        int sleepers = 0;
        for (int one = 0; one < wall.sleepers.told; one++) {
            if ((set >> one & 1) == 1 && askedBy(one) >= felt) {
                sleepers++;
            }
        }
        return sleepers;
    }

    private int warmCells(int felt) {
        int cells = 0;
        for (int at = 0; at < wall.cells; at++) {
            if (apart.leastFelt[at] >= felt) {
                cells++;
            }
        }
        return cells;
    }

    public int timing(int oven, int cell, int what) {
        int at = wall.indexOf(cell);
        if (at == NONE || !wall.ovens.has(oven) || !within(what, 0, 1)) {
            return NONE;
        }
        int length = now.until[oven] - now.from[oven] + DAY;
        int best = NONE;
        int bestFelt = 0;
        for (int from = 0; from < DAY; from++) {
            apart.follow(now);
            apart.from[oven] = from;
            apart.until[oven] = (from + length) % DAY;
            apart.sleep(wall, sky);
            if (best == NONE || apart.leastFelt[at] > bestFelt) {
                best = from;
                bestFelt = apart.leastFelt[at];
            }
        }
        return what == 0 ? best : bestFelt;
    }

    // ---- other stones

    public int changed(int cell, int n, int what) {
        int at = wall.indexOf(cell);
        if (at == NONE || !within(n, 1, FARTHEST) || !within(what, 0, 1)) {
            return NONE;
        }
        int best = NONE;
        int bestFelt = NONE;
        for (int stone = 0; stone < wall.cells; stone++) {
            for (int sort = 0; sort < wall.stones.told; sort++) {
                apart.follow(now);
                apart.change(stone, sort, wall);
                for (int hour = 0; hour < n; hour++) {
                    apart.step(wall, sky);
                }
                if (apart.felt[at] > bestFelt) {
                    best = 10 * wall.nameOf(stone) + sort;
                    bestFelt = apart.felt[at];
                }
            }
        }
        return what == 0 ? best : bestFelt;
    }

    public int laid(int what) {
        if (wall.cells == 0 || wall.cells > LAID_CELLS || wall.stones.told > LAID_SORTS || !within(what, 0, 1)) {
            return HIDDEN;
        }
        int ways = 1;
        for (int at = 0; at < wall.cells; at++) {
            ways *= wall.stones.told;
        }
        int best = HIDDEN;
        int bestFelt = NONE;
        for (int way = 0; way < ways; way++) {
            apart.follow(now);
            int digits = layAnew(way);
            apart.sleep(wall, sky);
            int felt = leastOfAll();
            if (felt > bestFelt) {
                best = digits;
                bestFelt = felt;
            }
        }
        return what == 0 ? best : bestFelt;
    }

    /** The ways are counted as their digits are, so that the first of several is the least. */
    private int layAnew(int way) {
        int rest = way;
        int digits = 0;
        int place = 1;
        for (int at = wall.cells - 1; at >= 0; at--) {
            int sorts = Math.max(1, wall.stones.told);
            int sort = rest % sorts;
            rest /= sorts;
            apart.sorts[at] = sort;
            apart.warmth[at] = 0;
            digits += place * (sort + 1);
            place *= 10;
        }
        return digits;
    }

    private int leastOfAll() {
        int least = apart.leastFelt[0];
        for (int at = 1; at < wall.cells; at++) {
            least = Math.min(least, apart.leastFelt[at]);
        }
        return least;
    }

    public int touched(int cell, int n, int v) {
        int at = wall.indexOf(cell);
        if (at == NONE || !within(n, 0, Touches.FARTHEST_TOLD) || !within(v, 0, 99)) {
            return NONE;
        }
        return touches.tell(at, n, v) ? touches.told : NONE;
    }

    public int fits(int cell) {
        int at = wall.indexOf(cell);
        return at == NONE ? NONE : sortsThatFit(at);
    }

    private int sortsThatFit(int at) {
        int sorts = 0;
        for (int sort = 0; sort < wall.stones.told; sort++) {
            if (isLikeTouches(at, sort)) {
                sorts |= 1 << sort;
            }
        }
        return sorts;
    }

    private boolean isLikeTouches(int at, int sort) {
        int last = touches.lastHour();
        apart.follow(now);
        apart.change(at, sort, wall);
        for (int hour = 0; hour < last; hour++) {
            if (!touches.allowAt(hour, apart.warmth)) {
                return false;
            }
            apart.step(wall, sky);
        }
        return touches.allowAt(last, apart.warmth);
    }

    public int touch(int cell, int n, int what) {
        int at = wall.indexOf(cell);
        if (at == NONE || !within(n, 0, TOUCH_FARTHEST) || !within(what, 0, 1)) {
            return NONE;
        }
        int sorts = sortsThatFit(at);
        if (sorts == 0) {
            return NONE;
        }
        for (int sort = 0; sort < wall.stones.told; sort++) {
            if ((sorts >> sort & 1) == 1) {
                tryOut(at, sort, n);
            }
        }
        int best = NONE;
        int bestUnlike = 0;
        for (int hour = 0; hour <= n; hour++) {
            for (int place = 0; place < wall.cells; place++) {
                int unlike = unlikeWarmths(sorts, hour, place);
                if (unlike > bestUnlike) {
                    best = 100 * hour + wall.nameOf(place);
                    bestUnlike = unlike;
                }
            }
        }
        return what == 0 ? best : bestUnlike;
    }

    private void tryOut(int at, int sort, int n) {
        apart.follow(now);
        apart.change(at, sort, wall);
        for (int hour = 0; hour <= n; hour++) {
            if (hour > 0) {
                apart.step(wall, sky);
            }
            for (int place = 0; place < wall.cells; place++) {
                trials[trialAt(sort, hour, place)] = apart.warmth[place];
            }
        }
    }

    private static int trialAt(int sort, int hour, int place) {
        return (sort * (TOUCH_FARTHEST + 1) + hour) * MOST_CELLS + place;
    }

    private int unlikeWarmths(int sorts, int hour, int place) {
        int unlike = 0;
        for (int sort = 0; sort < wall.stones.told; sort++) {
            boolean isNew = (sorts >> sort & 1) == 1;
            for (int other = 0; other < sort; other++) {
                if ((sorts >> other & 1) == 1
                        && trials[trialAt(other, hour, place)] == trials[trialAt(sort, hour, place)]) {
                    isNew = false;
                }
            }
            if (isNew) {
                unlike++;
            }
        }
        return unlike;
    }

    // ---- helpers of the questions

    private static boolean within(int n, int least, int most) {
        return n >= least && n <= most;
    }

    private void goAhead(int n) {
        apart.follow(now);
        for (int hour = 0; hour < n; hour++) {
            apart.step(wall, sky);
        }
    }

    private void nightAhead() {
        apart.follow(now);
        apart.sleep(wall, sky);
    }

    /** All that is felt in n hours more of the course apart; how much of it at each cell, is kept there. */
    private int airAhead(int n) {
        for (int at = 0; at < wall.cells; at++) {
            apart.feltInAll[at] = 0;
        }
        for (int hour = 0; hour < n; hour++) {
            apart.step(wall, sky);
            for (int at = 0; at < wall.cells; at++) {
                apart.feltInAll[at] += apart.felt[at];
            }
        }
        return sumOf(apart.feltInAll);
    }

    private int sumOf(int[] row) {
        int sum = 0;
        for (int at = 0; at < wall.cells && at < row.length; at++) {
            sum += row[at];
        }
        return sum;
    }

    /** The bytes that have been fed and are no text yet. */
    private static final class Tape {
        final int[] bytes = new int[TAPE_BYTES];
        int length;

        static int bytesIn(int word) {
            int bytes = 0;
            for (int shift = 24; shift >= 0; shift -= 8) {
                if ((word >>> shift & 255) != 0) {
                    bytes++;
                }
            }
            return bytes;
        }

        void append(int word) {
            for (int shift = 24; shift >= 0; shift -= 8) {
                int next = word >>> shift & 255;
                if (next != 0 && length < bytes.length) {
                    bytes[length] = next;
                    length++;
                }
            }
        }
    }

    /**
     * Goes along the tape. What can't go on answers false and leaves the place at the sign that is wrong, so that the
     * place is the fault then.
     */
    private abstract static class Reader {
        static final int END = -1;
        final Tape tape;
        int place;

        Reader(Tape tape) {
            this.tape = tape;
        }

        /** The next sign behind blanks. */
        final int sign() {
            while (place < tape.length && tape.bytes[place] == ' ') {
                place++;
            }
            return place < tape.length ? tape.bytes[place] : END;
        }

        final boolean takes(int wanted) {
            if (sign() != wanted) {
                return false;
            }
            place++;
            return true;
        }

        /** A number, or NONE: no digit stands here, or one too many. No blank behind it is passed. */
        final int digits(int most) {
            int number = 0;
            int read = 0;
            // blanks may stand ahead of a number, none within
            sign();
            while (place < tape.length && tape.bytes[place] >= '0' && tape.bytes[place] <= '9') {
                if (read == most) {
                    return NONE;
                }
                number = number * 10 + tape.bytes[place] - '0';
                read++;
                place++;
            }
            return read == 0 ? NONE : number;
        }
    }

    /** The stones, the ovens or the sleepers of a wall: of each the numbers that its clause tells by letters. */
    private static final class Kind {
        final int limit;
        final String letters;
        final int[] least;
        final int[] most;
        final int[] without;
        final int[] numbers;
        int told;

        Kind(int limit, String letters, int[] least, int[] most, int[] without) {
            this.limit = limit;
            this.letters = letters;
            this.least = least;
            this.most = most;
            this.without = without;
            numbers = new int[limit * without.length];
        }

        boolean has(int which) {
            return which >= 0 && which < told;
        }

        int number(int which, int item) {
            if (which < 0 || which >= told || item < 0 || item >= without.length) {
                return NONE;
            }
            return numbers[which * without.length + item];
        }

        boolean addsOne() {
            if (told == limit) {
                return false;
            }
            for (int item = 0; item < without.length; item++) {
                numbers[told * without.length + item] = without[item];
            }
            told++;
            return true;
        }

        int itemOf(int sign) {
            for (int item = 0; item < letters.length(); item++) {
                if (letters.charAt(item) == sign) {
                    return item;
                }
            }
            return NONE;
        }

        /** A number of the latest one. */
        boolean tells(int item, int number) {
            if (told == 0 || item < 0 || item >= without.length || number < least[item] || number > most[item]) {
                return false;
            }
            numbers[(told - 1) * without.length + item] = number;
            return true;
        }
    }

    /** What the text of a wall tells: it stays as it is. Its cells stand in one row, by their numbers. */
    private static final class Wall {
        private static final int[] STONE_LEAST = {0, 1, 0};
        private static final int[] STONE_MOST = {9, 99, 10};
        private static final int[] STONE_WITHOUT = {3, 60, 3};
        private static final int[] OVEN_LEAST = {0, 0, 0, 0, 0};
        private static final int[] OVEN_MOST = {3, 5, 23, 23, 20};
        private static final int[] OVEN_WITHOUT = {0, 0, 4, 7, 8};
        private static final int[] SLEEPER_LEAST = {0, 0};
        private static final int[] SLEEPER_MOST = {99, 9};
        private static final int[] SLEEPER_WITHOUT = {5, 0};

        final Kind stones = new Kind(MOST_SORTS, "thg", STONE_LEAST, STONE_MOST, STONE_WITHOUT);
        final Kind ovens = new Kind(MOST_OVENS, "rcfuh", OVEN_LEAST, OVEN_MOST, OVEN_WITHOUT);
        final Kind sleepers = new Kind(MOST_SLEEPERS, "wf", SLEEPER_LEAST, SLEEPER_MOST, SLEEPER_WITHOUT);
        final int[] letters = new int[MOST_ROWS * MOST_COLUMNS];
        final int[] lengths = new int[MOST_ROWS];
        final int[] rowOf = new int[MOST_CELLS];
        final int[] columnOf = new int[MOST_CELLS];
        final int[] sortOf = new int[MOST_CELLS];
        final int[] beside = new int[MOST_CELLS * SIDES];
        int rows;
        int columns;
        int cells;

        void clear() {
            stones.told = 0;
            ovens.told = 0;
            sleepers.told = 0;
            rows = 0;
            columns = 0;
            cells = 0;
        }

        /** What can be judged no earlier than at the end of the text. */
        boolean stands() {
            if (stones.told == 0 || rows == 0) {
                return false;
            }
            for (int row = 0; row < rows; row++) {
                if (lengths[row] != lengths[0]) {
                    return false;
                }
                for (int column = 0; column < lengths[row]; column++) {
                    if (letters[row * MOST_COLUMNS + column] >= stones.told) {
                        return false;
                    }
                }
            }
            for (int oven = 0; oven < ovens.told; oven++) {
                if (ovens.number(oven, OVEN_ROW) >= rows || ovens.number(oven, OVEN_COLUMN) >= lengths[0]) {
                    return false;
                }
            }
            return true;
        }

        void lay() {
            columns = lengths[0];
            cells = rows * columns;
            for (int row = 0; row < rows; row++) {
                for (int column = 0; column < columns; column++) {
                    int at = row * columns + column;
                    rowOf[at] = row;
                    columnOf[at] = column;
                    sortOf[at] = letters[row * MOST_COLUMNS + column];
                    beside[at * SIDES] = row > 0 ? at - columns : NONE;
                    beside[at * SIDES + 1] = row < rows - 1 ? at + columns : NONE;
                    beside[at * SIDES + 2] = column > 0 ? at - 1 : NONE;
                    beside[at * SIDES + 3] = column < columns - 1 ? at + 1 : NONE;
                }
            }
        }

        int indexOf(int name) {
            if (name < 0 || name / 10 >= rows || name % 10 >= columns) {
                return NONE;
            }
            return name / 10 * columns + name % 10;
        }

        int nameOf(int at) {
            return at < 0 || at >= cells ? NONE : 10 * rowOf[at] + columnOf[at];
        }

        boolean areBeside(int at, int other) {
            if (at < 0 || at >= cells) {
                return false;
            }
            for (int side = 0; side < SIDES; side++) {
                if (beside[at * SIDES + side] == other) {
                    return true;
                }
            }
            return false;
        }
    }

    private static final class WallReader extends Reader {
        WallReader(Tape tape) {
            super(tape);
        }

        /** Reads the tape into a wall that is not in use: the fault, or NONE. */
        int faultOf(Wall wall) {
            place = 0;
            wall.clear();
            for (int clauses = 0; clauses <= tape.length; clauses++) {
                if (!clause(wall)) {
                    return place;
                }
                if (!takes(';')) {
                    break;
                }
            }
            return sign() == END && wall.stands() ? NONE : place;
        }

        private boolean clause(Wall wall) {
            switch (sign()) {
                case 's':
                    return items(wall.stones);
                case 'o':
                    return items(wall.ovens);
                case 'n':
                    return items(wall.sleepers);
                case 'l':
                    return row(wall);
                default:
                    return false;
            }
        }

        private boolean items(Kind kind) {
            if (!kind.addsOne()) {
                return false;
            }
            place++;
            int seen = 0;
            for (int items = 0; items <= tape.length; items++) {
                int item = kind.itemOf(sign());
                if (item == NONE) {
                    break;
                }
                if ((seen >> item & 1) == 1) {
                    return false;
                }
                seen |= 1 << item;
                place++;
                int number = digits(2);
                if (number == NONE) {
                    return false;
                }
                if (!kind.tells(item, number)) {
                    place--;
                    return false;
                }
            }
            return true;
        }

        private boolean row(Wall wall) {
            if (wall.rows == MOST_ROWS) {
                return false;
            }
            place++;
            int length = 0;
            for (int letter = sign(); letter >= 'A' && letter <= 'D'; letter = sign()) {
                if (length == MOST_COLUMNS) {
                    return false;
                }
                wall.letters[wall.rows * MOST_COLUMNS + length] = letter - 'A';
                length++;
                place++;
            }
            if (length == 0) {
                return false;
            }
            wall.lengths[wall.rows] = length;
            wall.rows++;
            return true;
        }
    }

    /** A law in the order in which it is worked out: numbers as they are, signs below 0, behind what they join. */
    private static final class Law {
        private static final int BOUND = 1000000;

        private final int[] code = new int[TAPE_BYTES];
        private final int[] stack = new int[TAPE_BYTES + 1];
        private int size;
        boolean asksDay;

        void clear() {
            size = 0;
            asksDay = false;
        }

        void addNumber(int number) {
            if (size < code.length) {
                code[size] = number;
                size++;
            }
        }

        void addSign(int sign) {
            addNumber(-sign);
            if (sign == 'd') {
                asksDay = true;
            }
        }

        int worth(int hour, int row, int column, int sort) {
            // place 0 stays below all numbers, so that the top may always be looked at
            int top = 0;
            boolean isPassedOver = false;
            for (int at = 0; at < size && top >= 0 && top < stack.length - 1; at++) {
                int sign = -code[at];
                if (isPassedOver) {
                    isPassedOver = sign != ';';
                    continue;
                }
                switch (sign) {
                    case ';':
                        return stack[top];
                    case '?':
                        isPassedOver = stack[top] == 0;
                        top--;
                        break;
                    case '!':
                        stack[top] = 1 - stack[top];
                        break;
                    case 'h':
                        stack[++top] = hour % DAY;
                        break;
                    case 'd':
                        stack[++top] = hour / DAY;
                        break;
                    case 'r':
                        stack[++top] = row;
                        break;
                    case 'c':
                        stack[++top] = column;
                        break;
                    case 's':
                        stack[++top] = sort;
                        break;
                    default:
                        if (sign <= 0) {
                            stack[++top] = -sign;
                        } else if (top > 0) {
                            top--;
                            stack[top] = joined(stack[top], sign, stack[top + 1]);
                        }
                }
            }
            return 0;
        }

        private static int joined(int a, int sign, int b) {
            long sum;
            switch (sign) {
                case '+':
                    sum = (long) a + b;
                    break;
                case '-':
                    sum = (long) a - b;
                    break;
                case '*':
                    sum = (long) a * b;
                    break;
                case '/':
                    sum = b == 0 ? 0 : a / b;
                    break;
                case '=':
                    return a == b ? 1 : 0;
                case '<':
                    return a < b ? 1 : 0;
                case '>':
                    return a > b ? 1 : 0;
                case '&':
                    return a & b;
                default:
                    return a | b;
            }
            return sum > BOUND ? BOUND : sum < -BOUND ? -BOUND : (int) sum;
        }
    }

    private static final class LawReader extends Reader {
        private static final int DEEPEST = 6;

        LawReader(Tape tape) {
            super(tape);
        }

        /** Reads the tape into a law that is not told yet: the fault, or NONE. */
        int faultOf(Law law) {
            place = 0;
            law.clear();
            for (int clauses = 0; clauses <= tape.length; clauses++) {
                if (!clause(law)) {
                    return place;
                }
                law.addSign(';');
                if (!takes(';')) {
                    break;
                }
            }
            return sign() == END ? NONE : place;
        }

        /** Whether the first sum belongs to a condition, is seen only by what stands behind it. */
        private boolean clause(Law law) {
            if (!takes('y') || !takes(':')) {
                return false;
            }
            boolean isSum = sign() != '!' && sign() != '(';
            if (isSum) {
                if (!sum(law, 0)) {
                    return false;
                }
                if (!compares(sign())) {
                    return true;
                }
            }
            if (!condition(law, 0, isSum) || !takes('?')) {
                return false;
            }
            law.addSign('?');
            return sum(law, 0);
        }

        private boolean condition(Law law, int depth, boolean isBegun) {
            for (int truths = 0; truths <= tape.length; truths++) {
                if (!truth(law, depth, isBegun && truths == 0)) {
                    return false;
                }
                if (truths > 0) {
                    law.addSign('|');
                }
                if (!takes('|')) {
                    return true;
                }
            }
            return false;
        }

        private boolean truth(Law law, int depth, boolean isBegun) {
            for (int units = 0; units <= tape.length; units++) {
                if (!unit(law, depth, isBegun && units == 0)) {
                    return false;
                }
                if (units > 0) {
                    law.addSign('&');
                }
                if (!takes('&')) {
                    return true;
                }
            }
            return false;
        }

        private boolean unit(Law law, int depth, boolean isBegun) {
            int first = sign();
            if (!isBegun && (first == '!' || first == '(')) {
                if (depth == DEEPEST) {
                    return false;
                }
                place++;
                if (first == '(') {
                    return condition(law, depth + 1, false) && takes(')');
                }
                if (!unit(law, depth + 1, false)) {
                    return false;
                }
                law.addSign('!');
                return true;
            }
            if (!isBegun && !sum(law, depth)) {
                return false;
            }
            int sign = sign();
            if (!compares(sign)) {
                return false;
            }
            place++;
            if (!sum(law, depth)) {
                return false;
            }
            law.addSign(sign);
            return true;
        }

        private static boolean compares(int sign) {
            return sign == '=' || sign == '<' || sign == '>';
        }

        private boolean sum(Law law, int depth) {
            int sign = '+';
            for (int terms = 0; terms <= tape.length; terms++) {
                if (!term(law, depth)) {
                    return false;
                }
                if (terms > 0) {
                    law.addSign(sign);
                }
                sign = sign();
                if (sign != '+' && sign != '-') {
                    return true;
                }
                place++;
            }
            return false;
        }

        private boolean term(Law law, int depth) {
            int sign = '*';
            for (int atoms = 0; atoms <= tape.length; atoms++) {
                if (!atom(law, depth)) {
                    return false;
                }
                if (atoms > 0) {
                    law.addSign(sign);
                }
                sign = sign();
                if (sign != '*' && sign != '/') {
                    return true;
                }
                place++;
            }
            return false;
        }

        private boolean atom(Law law, int depth) {
            int sign = sign();
            switch (sign) {
                case '[':
                    if (depth == DEEPEST) {
                        return false;
                    }
                    place++;
                    return sum(law, depth + 1) && takes(']');
                case 'h':
                case 'r':
                case 'c':
                case 'd':
                case 's':
                    place++;
                    law.addSign(sign);
                    return true;
                default:
                    int number = digits(4);
                    if (number == NONE) {
                        return false;
                    }
                    law.addNumber(number);
                    return true;
            }
        }
    }

    /** Sun and rain. What a law says is kept by day, hour, place and sort: a course asks the same again and again. */
    private static final class Sky {
        private static final int DAYS_KEPT = 4;
        private static final int SUNS_A_DAY = DAY * MOST_CELLS * MOST_SORTS;
        private static final int UNKNOWN = -1;

        private final Law[] laws = new Law[MOST_LAWS + 1];
        private final int[] suns = new int[DAYS_KEPT * SUNS_A_DAY];
        private final int[] dayOfPage = new int[DAYS_KEPT];
        int lawsTold;
        int lawHeld = NONE;
        int rainHours;

        Sky() {
            for (int law = 0; law < laws.length; law++) {
                laws[law] = new Law();
            }
        }

        /** The law behind those told; with all told it is the one place more. */
        Law draft() {
            return laws[Math.min(lawsTold, MOST_LAWS)];
        }

        void obey(int law) {
            lawHeld = law;
            for (int page = 0; page < DAYS_KEPT; page++) {
                dayOfPage[page] = UNKNOWN;
            }
        }

        boolean rainsAt(int hour) {
            return (rainHours >> hour % DAY & 1) == 1;
        }

        int sunOn(int hour, int row, int column, int sort) {
            int time = hour % DAY;
            if (lawHeld < 0 || lawHeld >= laws.length) {
                return time >= 8 && time <= 15 ? 5 : 0;
            }
            Law law = laws[lawHeld];
            int day = law.asksDay ? hour / DAY : 0;
            int page = day % DAYS_KEPT;
            int at = page * SUNS_A_DAY + (time * MOST_CELLS + row * MOST_COLUMNS + column) * MOST_SORTS + sort;
            if (at < 0 || at >= suns.length) {
                return 0;
            }
            if (dayOfPage[page] != day) {
                turnTo(page, day);
            }
            if (suns[at] == UNKNOWN) {
                int worth = law.worth(hour, row, column, sort);
                suns[at] = worth < 0 ? 0 : worth > 9 ? 9 : worth;
            }
            return suns[at];
        }

        private void turnTo(int page, int day) {
            dayOfPage[page] = day;
            for (int at = page * SUNS_A_DAY; at < (page + 1) * SUNS_A_DAY; at++) {
                suns[at] = UNKNOWN;
            }
        }
    }

    /** The wall as hours go by: as it is, or apart. Stones and hours of ovens are its own, so that they can differ. */
    private static final class Course {
        private static final int EVENING = 20;
        private static final int NIGHT = 9;

        final int[] warmth = new int[MOST_CELLS];
        final int[] felt = new int[MOST_CELLS];
        final int[] sorts = new int[MOST_CELLS];
        final int[] from = new int[MOST_OVENS];
        final int[] until = new int[MOST_OVENS];
        final int[] leastFelt = new int[MOST_CELLS];
        final int[] feltInAll = new int[MOST_CELLS];
        private final int[] given = new int[MOST_CELLS];
        int hour;

        void begin(Wall wall) {
            hour = 0;
            for (int at = 0; at < wall.cells; at++) {
                warmth[at] = 0;
                sorts[at] = wall.sortOf[at];
            }
            for (int oven = 0; oven < wall.ovens.told; oven++) {
                from[oven] = wall.ovens.number(oven, OVEN_FROM);
                until[oven] = wall.ovens.number(oven, OVEN_UNTIL);
            }
        }

        void follow(Course other) {
            hour = other.hour;
            System.arraycopy(other.warmth, 0, warmth, 0, MOST_CELLS);
            System.arraycopy(other.sorts, 0, sorts, 0, MOST_CELLS);
            System.arraycopy(other.from, 0, from, 0, MOST_OVENS);
            System.arraycopy(other.until, 0, until, 0, MOST_OVENS);
        }

        void change(int at, int sort, Wall wall) {
            if (at >= 0 && at < MOST_CELLS) {
                sorts[at] = sort;
                warmth[at] = Math.min(warmth[at], wall.stones.number(sort, HOLDS));
            }
        }

        boolean burns(int oven) {
            int time = hour % DAY;
            if (from[oven] <= until[oven]) {
                return time >= from[oven] && time < until[oven];
            }
            return time >= from[oven] || time < until[oven];
        }

        int givenBy(int at, Wall wall) {
            return warmth[at] * wall.stones.number(sorts[at], GIVES) / 10;
        }

        void step(Wall wall, Sky sky) {
            boolean rains = sky.rainsAt(hour);
            for (int at = 0; at < wall.cells; at++) {
                given[at] = givenBy(at, wall);
                felt[at] = given[at];
                warmth[at] -= given[at];
                if (!rains) {
                    int sun = sky.sunOn(hour, wall.rowOf[at], wall.columnOf[at], sorts[at]);
                    warmth[at] += sun * wall.stones.number(sorts[at], TAKES);
                }
            }
            for (int at = 0; at < wall.cells; at++) {
                felt[at] -= share(at, given[at] / SIDES, wall);
            }
            for (int oven = 0; oven < wall.ovens.told; oven++) {
                int at = wall.ovens.number(oven, OVEN_ROW) * wall.columns + wall.ovens.number(oven, OVEN_COLUMN);
                if (burns(oven) && at >= 0 && at < wall.cells) {
                    int heat = wall.ovens.number(oven, OVEN_HEAT);
                    warmth[at] += heat;
                    share(at, heat / 2, wall);
                }
            }
            settle(rains, wall);
            hour++;
        }

        /** Gives as much to each cell beside one: how much that is in all. */
        private int share(int at, int much, Wall wall) {
            int sum = 0;
            for (int side = 0; side < SIDES; side++) {
                int other = wall.beside[at * SIDES + side];
                if (other != NONE) {
                    warmth[other] += much;
                    sum += much;
                }
            }
            return sum;
        }

        private void settle(boolean rains, Wall wall) {
            for (int at = 0; at < wall.cells; at++) {
                if (rains) {
                    warmth[at] = Math.max(0, warmth[at] - 2);
                }
                int over = warmth[at] - wall.stones.number(sorts[at], HOLDS);
                if (over > 0) {
                    felt[at] += over;
                    warmth[at] -= over;
                }
            }
        }

        /** Goes through the next night to its end, and keeps the least that is felt in it at each cell. */
        void sleep(Wall wall, Sky sky) {
            int waking = (EVENING - hour % DAY + DAY) % DAY;
            for (int passed = 0; passed < waking; passed++) {
                step(wall, sky);
            }
            for (int passed = 0; passed < NIGHT; passed++) {
                step(wall, sky);
                for (int at = 0; at < wall.cells; at++) {
                    leastFelt[at] = passed == 0 ? felt[at] : Math.min(leastFelt[at], felt[at]);
                }
            }
        }
    }

    /** The latest hours, so that they can be undone, and the image. */
    private static final class Past {
        private static final int HOURS_KEPT = 60;

        private final int[] warmths = new int[HOURS_KEPT * MOST_CELLS];
        private final int[] picture = new int[MOST_CELLS];
        private boolean isDrawn;
        private int pictureHour;
        private int next;
        int kept;

        void forget() {
            kept = 0;
            isDrawn = false;
        }

        void keep(Course now) {
            System.arraycopy(now.warmth, 0, warmths, next * MOST_CELLS, MOST_CELLS);
            next = (next + 1) % HOURS_KEPT;
            kept = Math.min(kept + 1, HOURS_KEPT);
        }

        boolean takeBack(Course now) {
            if (kept == 0) {
                return false;
            }
            kept--;
            next = (next + HOURS_KEPT - 1) % HOURS_KEPT;
            System.arraycopy(warmths, next * MOST_CELLS, now.warmth, 0, MOST_CELLS);
            now.hour--;
            return true;
        }

        void draw(Course now) {
            System.arraycopy(now.warmth, 0, picture, 0, MOST_CELLS);
            pictureHour = now.hour;
            isDrawn = true;
        }

        boolean comeBack(Course now) {
            if (!isDrawn) {
                return false;
            }
            System.arraycopy(picture, 0, now.warmth, 0, MOST_CELLS);
            now.hour = pictureHour;
            kept = 0;
            return true;
        }
    }

    private static final class Touches {
        static final int FARTHEST_TOLD = 48;
        private static final int MOST_TOLD = 20;

        private final int[] cells = new int[MOST_TOLD];
        private final int[] hours = new int[MOST_TOLD];
        private final int[] warmths = new int[MOST_TOLD];
        int told;

        boolean tell(int at, int hour, int warmth) {
            if (told == MOST_TOLD) {
                return false;
            }
            cells[told] = at;
            hours[told] = hour;
            warmths[told] = warmth;
            told++;
            return true;
        }

        int lastHour() {
            int last = 0;
            for (int touch = 0; touch < told; touch++) {
                last = Math.max(last, hours[touch]);
            }
            return last;
        }

        /** Whether all that was touched behind this hour was as warm as here. */
        boolean allowAt(int hour, int[] warmth) {
            for (int touch = 0; touch < told; touch++) {
                int at = cells[touch];
                if (hours[touch] == hour && (at >= warmth.length || warmth[at] != warmths[touch])) {
                    return false;
                }
            }
            return true;
        }
    }
}
