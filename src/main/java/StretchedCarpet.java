/**
 * A carpet stretched to the walls of a room: lengths cut off a roll, walls hooked, months that go by.
 * No call allocates anything: all rows are made once, in the constructors.
 */
public final class StretchedCarpet {
    public static final int BAD = -1, NO = -2, FULL = -3, NONE = -4;

    private static final String FIRST_TEXT =
        "s11,3,2;s11,7,1;s12,2,8;s9,1,3;s9,5,0;s11,0,6;s11,4,4;r3,50;o2;h12;k1,3;d3;d5;d8;d2;";

    private static final int MOST_LETTERS = 200;
    private static final int MOST_STRIPS = 12;
    private static final int MOST_DAMPS = 12;
    private static final int WIDEST_ROLL = 6;
    private static final int LONGEST_STRIP = 40;
    private static final int WALLS = 4;
    private static final int HARDEST_KICK = 20;
    private static final int FIRST_TIGHTNESS = 2;
    private static final int SLACK_BELOW = 2;
    private static final int TIGHT_ENOUGH = 4;
    private static final int LAST_MONTH = 999;
    private static final int MONTHS_AHEAD = 60;
    private static final int MOST_UNDONE = 8;
    private static final int MOST_KEPT = 2;

    private final char[] text = new char[MOST_LETTERS];
    private int letters;
    private Room room;
    private Room draft;
    private final Carpet carpet;
    private final Carpet trial;
    private final Shelf undoable;
    private final Shelf kept;
    private final Sightings sightings;
    private final CutPlan cutPlan;
    private final HookOrder hookOrder;

    public StretchedCarpet() {
        room = new Room();
        draft = new Room();
        carpet = new Carpet();
        trial = new Carpet();
        undoable = new Shelf(MOST_UNDONE);
        kept = new Shelf(MOST_KEPT);
        sightings = new Sightings();
        cutPlan = new CutPlan();
        hookOrder = new HookOrder();
        room.readText(FIRST_TEXT.toCharArray(), FIRST_TEXT.length());
        carpet.clear(room.rollLong);
    }

    // ---- rooms

    public int write(int letter) {
        if (!within(letter, 32, 126)) {
            return BAD;
        }
        if (letters < 0 || letters >= text.length) {
            return FULL;
        }
        text[letters] = (char) letter;
        letters++;
        return letters;
    }

    public int wipe() {
        int was = letters;
        letters = 0;
        return was;
    }

    public int fault() {
        return draft.readText(text, letters);
    }

    public int lay() {
        if (draft.readText(text, letters) != NONE || draft.strips == 0) {
            return NO;
        }
        Room before = room;
        room = draft;
        draft = before;
        carpet.clear(room.rollLong);
        undoable.clear();
        kept.clear();
        sightings.clear();
        return room.strips;
    }

    public int strip(int s, int what) {
        if (!within(s, 0, room.strips - 1)) {
            return BAD;
        }
        switch (what) {
            case 0:
                return room.lengthOfStrip(s);
            case 1:
                return room.lightAt(s);
            case 2:
                return room.treadAt(s);
            case 3:
                return carpet.lengthOver(s);
            case 4:
                return carpet.isSeamAt(s) ? 1 : 0;
            default:
                return BAD;
        }
    }

    public int wall(int w, int what) {
        if (!isWall(w)) {
            return BAD;
        }
        switch (what) {
            case 0:
                return carpet.tightness(w);
            case 1:
                return carpet.isHooked(w) ? 1 : 0;
            case 2:
                return carpet.isTorn(w) ? 1 : 0;
            case 3:
                return carpet.isWaving(w) ? 1 : 0;
            default:
                return BAD;
        }
    }

    public int damp(int m) {
        return within(m, 0, LAST_MONTH) ? room.dampOf(m) : BAD;
    }

    // ---- acts

    public int cut(int b) {
        if (!within(b, 1, WIDEST_ROLL)) {
            return BAD;
        }
        if (!carpet.canCut(room, b)) {
            return NO;
        }
        undoable.push(carpet);
        return carpet.cutFor(room, b);
    }

    public int hook(int w, int f) {
        if (!isWall(w) || !within(f, 0, HARDEST_KICK)) {
            return BAD;
        }
        if (!carpet.isCovered(room) || !carpet.isFree(w)) {
            return NO;
        }
        undoable.push(carpet);
        return carpet.hookOn(room, w, f);
    }

    public int letGo(int w) {
        if (!isWall(w)) {
            return BAD;
        }
        if (!carpet.isHooked(w)) {
            return NO;
        }
        undoable.push(carpet);
        return carpet.unhook(w);
    }

    public int pass(int n) {
        if (!within(n, 1, MONTHS_AHEAD)) {
            return BAD;
        }
        if (carpet.month + n > LAST_MONTH) {
            return NO;
        }
        undoable.push(carpet);
        for (int i = 0; i < n; i++) {
            carpet.passMonth(room);
        }
        return carpet.month;
    }

    public int undo() {
        return undoable.pop(carpet) ? undoable.size : NO;
    }

    // ---- what to do

    public int plan(int k) {
        if (k < -2) {
            return BAD;
        }
        cutPlan.make(room, carpet);
        if (!cutPlan.does) {
            return NONE;
        }
        switch (k) {
            case -1:
                return cutPlan.leastCut;
            case -2:
                return cutPlan.leastSeams;
            default:
                return cutPlan.breadthOf(k);
        }
    }

    public int order(int k) {
        if (!within(k, -1, WALLS - 1)) {
            return BAD;
        }
        hookOrder.make(room, carpet, trial);
        return k == -1 ? hookOrder.leastKicks : hookOrder.wallAt(k);
    }

    public int kickFor(int w, int t) {
        if (!isWall(w) || !within(t, 0, 30)) {
            return BAD;
        }
        return carpet.isFree(w) ? carpet.leastKick(room, w, t) : NONE;
    }

    public int waves() {
        int first = MONTHS_AHEAD + 1;
        for (int w = 0; w < WALLS; w++) {
            if (carpet.isHooked(w)) {
                first = Math.min(first, carpet.monthsToWave(room, w));
            }
        }
        return first > MONTHS_AHEAD ? NONE : first;
    }

    public int longest() {
        int last = NONE;
        int most = -1;
        for (int w = 0; w < WALLS; w++) {
            if (carpet.isHooked(w) && carpet.monthsToWave(room, w) > most) {
                last = w;
                most = carpet.monthsToWave(room, w);
            }
        }
        return last;
    }

    // ---- what was seen

    public int seen(int f, int v) {
        if (!within(f, 0, HARDEST_KICK) || !within(v, 0, 40)) {
            return BAD;
        }
        return sightings.add(f, v) ? sightings.size : FULL;
    }

    public int forget() {
        int were = sightings.size;
        sightings.clear();
        return were;
    }

    public int may(int what) {
        switch (what) {
            case 0:
                return sightings.kindsFor(room.gives);
            case 1:
                return sightings.givesFor(room.kind);
            default:
                return BAD;
        }
    }

    // ---- what is left

    public int hall(int w, int n) {
        if (!within(w, 1, WIDEST_ROLL) || !within(n, 1, LONGEST_STRIP)) {
            return BAD;
        }
        if (carpet.hasRestFor(room, w, n)) {
            return 1;
        }
        return room.rollBroad >= w && carpet.rollLeft >= n ? 2 : 0;
    }

    public int left(int what) {
        switch (what) {
            case 0:
                return carpet.areaOfRests(room);
            case 1:
                return room.rollBroad * carpet.rollLeft;
            default:
                return BAD;
        }
    }

    public int likely(int w, int n, int x, int part) {
        if (!isWall(w) || !within(n, 0, 6) || !within(x, 0, 10) || !within(part, 0, 1)) {
            return BAD;
        }
        if (!carpet.isHooked(w)) {
            return NO;
        }
        int above = waysToWave(carpet.tightness(w), n, x);
        int below = power(10, n);
        int common = commonDivisor(above, below);
        if (common <= 0) {
            return NONE;
        }
        return part == 0 ? above / common : below / common;
    }

    public int year(int z, int n, int what) {
        if (!within(z, 0, 9999) || !within(n, 1, 40) || !within(what, 0, 1)) {
            return BAD;
        }
        if (!carpet.isCovered(room)) {
            return NO;
        }
        trial.copyFrom(carpet);
        for (int step = 0; step < n; step++) {
            trial.takeStep(room, draw(z, step));
        }
        return what == 0 ? Integer.bitCount(trial.torn) : trial.tightnessInAll();
    }

    // ---- kept

    public int keep() {
        if (kept.isFull()) {
            return FULL;
        }
        kept.push(carpet);
        return kept.size;
    }

    public int back() {
        if (!kept.pop(carpet)) {
            return NO;
        }
        undoable.clear();
        return kept.size;
    }

    public int count(int what) {
        switch (what) {
            case 0:
                return room.strips;
            case 1:
                return carpet.lengths;
            case 2:
                return carpet.rollLeft;
            case 3:
                return Math.max(0, carpet.lengths - 1);
            case 4:
                return Integer.bitCount(carpet.hooked);
            case 5:
                return Integer.bitCount(carpet.torn);
            case 6:
                return carpet.month;
            case 7:
                return sightings.size;
            case 8:
                return undoable.size;
            case 9:
                return kept.size;
            case 10:
                return letters;
            default:
                return BAD;
        }
    }

    // ---- helpers

    private static boolean within(int number, int least, int most) {
        return number >= least && number <= most;
    }

    private static boolean isWall(int w) {
        return within(w, 0, WALLS - 1);
    }

    /** What stands at a place of a row, 0 where the row has no such place. */
    private static int at(int[] row, int place) {
        return place >= 0 && place < row.length ? row[place] : 0;
    }

    private static void put(int[] row, int place, int number) {
        if (place >= 0 && place < row.length) {
            row[place] = number;
        }
    }

    private static void copy(int[] from, int[] to) {
        for (int i = 0; i < from.length && i < to.length; i++) {
            to[i] = from[i];
        }
    }

    private static int power(int base, int exponent) {
        int product = 1;
        for (int i = 0; i < exponent; i++) {
            product *= base;
        }
        return product;
    }

    /** Euclid's; a hundred rounds are more than two ints can need. */
    private static int commonDivisor(int a, int b) {
        int large = a;
        int small = b;
        for (int round = 0; round < 100 && small != 0; round++) {
            int remainder = large % small;
            large = small;
            small = remainder;
        }
        return large;
    }

    /** Of the 10 to the n equally likely runs of n months, those behind which a wall that tight waves. */
    private static int waysToWave(int tightness, int n, int x) {
        int ways = 0;
        int choices = 1;
        for (int damp = 0; damp <= n; damp++) {
            if (Math.max(0, tightness - 2 * damp) < SLACK_BELOW) {
                ways += choices * power(x, damp) * power(10 - x, n - damp);
            }
            choices = choices * (n - damp) / (damp + 1);
        }
        return ways;
    }

    private static int draw(int z, int step) {
        long x = 7919L * z + 6151L * step + 1L;
        return (int) (x * x % 65521L / 2L);
    }

    /** How much the stuff gives at a hooking when so many walls are hooked already. */
    private static int slackOf(int kind, int gives, int hookedAlready) {
        switch (kind) {
            case 0:
                return gives / 2;
            case 1:
                return gives;
            case 2:
                return gives * 2;
            default:
                return gives + hookedAlready;
        }
    }

    /** What a text tells: the strips, the roll, the hooks, the stuff, the damp. */
    private static final class Room {
        private static final int PLAIN_DAMP = 4;

        private final int[] stripLengths = new int[MOST_STRIPS];
        private final int[] lights = new int[MOST_STRIPS];
        private final int[] treads = new int[MOST_STRIPS];
        private final int[] damps = new int[MOST_DAMPS];
        private final int[] numbers = new int[3];
        private int strips;
        private int dampCount;
        private int rollBroad;
        private int rollLong;
        private int over;
        private int hookHold;
        private int kind;
        private int gives;

        Room() {
            clear();
        }

        private void clear() {
            strips = 0;
            dampCount = 0;
            rollBroad = 3;
            rollLong = 60;
            over = 2;
            hookHold = 12;
            kind = 0;
            gives = 3;
        }

        /** Takes in a text; the place of the first item that is not so, NONE if all are. */
        int readText(char[] letters, int size) {
            clear();
            int place = 0;
            for (int items = 0; items < size && place < size; items++) {
                int behind = readNumbers(letters, size, place);
                if (behind == NONE || !takeItem(letterAt(letters, size, place))) {
                    return place;
                }
                place = behind;
            }
            return NONE;
        }

        /** Reads the numbers of the item at a place: the place behind its ; (NONE: not so formed). */
        private int readNumbers(char[] letters, int size, int place) {
            int wanted = numbersBehind(letterAt(letters, size, place));
            if (wanted == 0) {
                return NONE;
            }
            int next = place + 1;
            for (int i = 0; i < wanted; i++) {
                int figures = figuresAt(letters, size, next);
                if (figures == 0) {
                    return NONE;
                }
                put(numbers, i, numberAt(letters, size, next, figures));
                next += figures;
                if (letterAt(letters, size, next) != (i + 1 == wanted ? ';' : ',')) {
                    return NONE;
                }
                next++;
            }
            return next;
        }

        private static int numbersBehind(int letter) {
            switch (letter) {
                case 's':
                    return 3;
                case 'r':
                case 'k':
                    return 2;
                case 'o':
                case 'h':
                case 'd':
                    return 1;
                default:
                    return 0;
            }
        }

        /** How many figures a number there has; a third one is left for the reader to stumble on. */
        private static int figuresAt(char[] letters, int size, int place) {
            if (!isFigure(letterAt(letters, size, place))) {
                return 0;
            }
            return isFigure(letterAt(letters, size, place + 1)) ? 2 : 1;
        }

        private static int numberAt(char[] letters, int size, int place, int figures) {
            int number = 0;
            for (int i = 0; i < figures; i++) {
                number = number * 10 + letterAt(letters, size, place + i) - '0';
            }
            return number;
        }

        private static boolean isFigure(int letter) {
            return within(letter, '0', '9');
        }

        private static int letterAt(char[] letters, int size, int place) {
            return place >= 0 && place < size && place < letters.length ? letters[place] : 0;
        }

        private boolean takeItem(int letter) {
            int first = at(numbers, 0);
            int second = at(numbers, 1);
            switch (letter) {
                case 's':
                    return takeStrip(first, second, at(numbers, 2));
                case 'r':
                    rollBroad = first;
                    rollLong = second;
                    return within(first, 1, WIDEST_ROLL) && within(second, 1, 99);
                case 'o':
                    over = first;
                    return within(first, 0, 5);
                case 'h':
                    hookHold = first;
                    return within(first, 1, 30);
                case 'k':
                    kind = first;
                    gives = second;
                    return within(first, 0, 3) && within(second, 1, 9);
                case 'd':
                    return takeDamp(first);
                default:
                    return false;
            }
        }

        private boolean takeStrip(int length, int light, int tread) {
            if (strips >= MOST_STRIPS || !within(length, 1, LONGEST_STRIP)) {
                return false;
            }
            if (!within(light, 0, 9) || !within(tread, 0, 9)) {
                return false;
            }
            put(stripLengths, strips, length);
            put(lights, strips, light);
            put(treads, strips, tread);
            strips++;
            return true;
        }

        private boolean takeDamp(int damp) {
            if (dampCount >= MOST_DAMPS || !within(damp, 0, 9)) {
                return false;
            }
            put(damps, dampCount, damp);
            dampCount++;
            return true;
        }

        int lengthOfStrip(int s) {
            return at(stripLengths, s);
        }

        int lightAt(int s) {
            return at(lights, s);
        }

        int treadAt(int s) {
            return at(treads, s);
        }

        int dampOf(int month) {
            return dampCount > 0 ? at(damps, month % dampCount) : PLAIN_DAMP;
        }

        /** How much less tight a hooked wall becomes by a month. */
        int slackeningIn(int month) {
            return dampOf(month) / 3;
        }

        /** How long a length for b strips from a strip on is cut. */
        int lengthFor(int strip, int b) {
            int most = 0;
            for (int i = 0; i < b; i++) {
                most = Math.max(most, at(stripLengths, strip + i));
            }
            return most + over;
        }
    }

    /** What becomes of the carpet: its lengths, the roll, the walls, the month. */
    private static final class Carpet {
        private final int[] breadths = new int[MOST_STRIPS];
        private final int[] tightnesses = new int[WALLS];
        private int lengths;
        private int covered;
        private int rollLeft;
        private int hooked;
        private int torn;
        private int month;

        Carpet() {
            clear(0);
        }

        void clear(int rollLong) {
            for (int w = 0; w < WALLS; w++) {
                put(tightnesses, w, 0);
            }
            lengths = 0;
            covered = 0;
            rollLeft = rollLong;
            hooked = 0;
            torn = 0;
            month = 0;
        }

        void copyFrom(Carpet other) {
            copy(other.breadths, breadths);
            copy(other.tightnesses, tightnesses);
            lengths = other.lengths;
            covered = other.covered;
            rollLeft = other.rollLeft;
            hooked = other.hooked;
            torn = other.torn;
            month = other.month;
        }

        // the lengths

        boolean isCovered(Room room) {
            return covered >= room.strips;
        }

        boolean canCut(Room room, int b) {
            return b <= room.rollBroad && b <= room.strips - covered && room.lengthFor(covered, b) <= rollLeft;
        }

        int cutFor(Room room, int b) {
            int cutLong = room.lengthFor(covered, b);
            put(breadths, lengths, b);
            lengths++;
            covered += b;
            rollLeft -= cutLong;
            return cutLong;
        }

        int lengthOver(int s) {
            int end = 0;
            for (int k = 0; k < lengths; k++) {
                end += at(breadths, k);
                if (s < end) {
                    return k;
                }
            }
            return NONE;
        }

        boolean isSeamAt(int s) {
            int over = lengthOver(s);
            int beside = lengthOver(s + 1);
            return over != NONE && beside != NONE && over != beside;
        }

        boolean hasRestFor(Room room, int w, int n) {
            int first = 0;
            for (int k = 0; k < lengths; k++) {
                int b = at(breadths, k);
                if (room.rollBroad - b >= w && room.lengthFor(first, b) >= n) {
                    return true;
                }
                first += b;
            }
            return false;
        }

        int areaOfRests(Room room) {
            int first = 0;
            int area = 0;
            for (int k = 0; k < lengths; k++) {
                int b = at(breadths, k);
                area += (room.rollBroad - b) * room.lengthFor(first, b);
                first += b;
            }
            return area;
        }

        // the walls

        int tightness(int w) {
            return at(tightnesses, w);
        }

        boolean isHooked(int w) {
            return (hooked >> w & 1) == 1;
        }

        boolean isTorn(int w) {
            return (torn >> w & 1) == 1;
        }

        /** Neither hooked nor torn. */
        boolean isFree(int w) {
            return !isHooked(w) && !isTorn(w);
        }

        boolean isWaving(int w) {
            return isHooked(w) && tightness(w) < SLACK_BELOW;
        }

        int tightnessInAll() {
            int all = 0;
            for (int w = 0; w < WALLS; w++) {
                all += tightness(w);
            }
            return all;
        }

        /** How tight a wall would be, whether it tears by it or not. */
        int tightnessBy(Room room, int w, int f) {
            if (hooked == 0) {
                return FIRST_TIGHTNESS;
            }
            int opposite = (w + 2) % WALLS;
            int slack = slackOf(room.kind, room.gives, Integer.bitCount(hooked));
            return Math.max(0, f + tightness(opposite) / 2 - slack);
        }

        /** The least kick by which a wall would be as tight as that and not tear; NONE. */
        int leastKick(Room room, int w, int wanted) {
            for (int f = 0; f <= HARDEST_KICK; f++) {
                int tightness = tightnessBy(room, w, f);
                if (tightness >= wanted && tightness <= room.hookHold) {
                    return f;
                }
            }
            return NONE;
        }

        int hookOn(Room room, int w, int f) {
            int tightness = tightnessBy(room, w, f);
            if (tightness > room.hookHold) {
                torn |= 1 << w;
                return 0;
            }
            hooked |= 1 << w;
            put(tightnesses, w, tightness);
            return tightness;
        }

        int unhook(int w) {
            int was = tightness(w);
            hooked &= ~(1 << w);
            put(tightnesses, w, 0);
            return was;
        }

        // the months

        void passMonth(Room room) {
            int less = room.slackeningIn(month);
            for (int w = 0; w < WALLS; w++) {
                put(tightnesses, w, Math.max(0, tightness(w) - less));
            }
            month++;
        }

        /** Behind how many months a hooked wall waves first; above MONTHS_AHEAD: in none of them. */
        int monthsToWave(Room room, int w) {
            int tightness = tightness(w);
            for (int ahead = 0; ahead <= MONTHS_AHEAD; ahead++) {
                if (tightness < SLACK_BELOW) {
                    return ahead;
                }
                tightness -= room.slackeningIn(month + ahead);
            }
            return MONTHS_AHEAD + 1;
        }

        /** One step of a year. */
        void takeStep(Room room, int draw) {
            int w = draw % WALLS;
            if (isHooked(w)) {
                if (draw / 4 % 5 == 0) {
                    unhook(w);
                }
            } else if (isFree(w)) {
                hookOn(room, w, draw / 32 % 16);
            }
            if (draw / 512 % 3 == 0) {
                passMonth(room);
            }
        }
    }

    /** The latest carpets, some at most: one more pushes the oldest out. */
    private static final class Shelf {
        private final Carpet[] rows;
        private int next;
        private int size;

        Shelf(int most) {
            rows = new Carpet[Math.max(1, most)];
            for (int i = 0; i < rows.length; i++) {
                rows[i] = new Carpet();
            }
        }

        void clear() {
            next = 0;
            size = 0;
        }

        boolean isFull() {
            return size >= rows.length;
        }

        private Carpet rowAt(int place) {
            return place >= 0 && place < rows.length ? rows[place] : null;
        }

        void push(Carpet carpet) {
            Carpet row = rowAt(next);
            if (row == null) {
                return;
            }
            row.copyFrom(carpet);
            next = next + 1 < rows.length ? next + 1 : 0;
            size = Math.min(size + 1, rows.length);
        }

        boolean pop(Carpet carpet) {
            int last = next > 0 ? next - 1 : rows.length - 1;
            Carpet row = rowAt(last);
            if (row == null || size <= 0) {
                return false;
            }
            carpet.copyFrom(row);
            next = last;
            size--;
            return true;
        }
    }

    /** What was seen: how tight a wall was by which kick, opposite the first one. */
    private static final class Sightings {
        private static final int MOST_SEEN = 6;
        private static final int KINDS = 4;
        private static final int MOST_GIVES = 9;

        private final int[] kicks = new int[MOST_SEEN];
        private final int[] tightnesses = new int[MOST_SEEN];
        private int size;

        Sightings() {
            clear();
        }

        void clear() {
            size = 0;
        }

        boolean add(int f, int v) {
            if (size >= MOST_SEEN) {
                return false;
            }
            put(kicks, size, f);
            put(tightnesses, size, v);
            size++;
            return true;
        }

        int kindsFor(int gives) {
            int bits = 0;
            for (int kind = 0; kind < KINDS; kind++) {
                if (explainedBy(kind, gives)) {
                    bits |= 1 << kind;
                }
            }
            return bits;
        }

        int givesFor(int kind) {
            int bits = 0;
            for (int gives = 1; gives <= MOST_GIVES; gives++) {
                if (explainedBy(kind, gives)) {
                    bits |= 1 << gives;
                }
            }
            return bits;
        }

        private boolean explainedBy(int kind, int gives) {
            int change = FIRST_TIGHTNESS / 2 - slackOf(kind, gives, 1);
            for (int i = 0; i < size; i++) {
                if (Math.max(0, at(kicks, i) + change) != at(tightnesses, i)) {
                    return false;
                }
            }
            return true;
        }
    }

    /** The way to cut what is still to be cut, worked out from the last strip to the first one without a length. */
    private static final class CutPlan {
        private final int[] cutFrom = new int[MOST_STRIPS + 1];
        private final int[] seamsFrom = new int[MOST_STRIPS + 1];
        private final int[] breadthFrom = new int[MOST_STRIPS + 1];
        private int start;
        private int end;
        private boolean does;
        private int leastCut;
        private int leastSeams;

        CutPlan() {
            does = false;
        }

        void make(Room room, Carpet carpet) {
            start = carpet.covered;
            end = room.strips;
            put(cutFrom, end, 0);
            put(seamsFrom, end, 0);
            for (int strip = end - 1; strip >= start; strip--) {
                choose(room, strip);
            }
            leastCut = at(cutFrom, start);
            leastSeams = at(seamsFrom, start);
            does = leastCut <= carpet.rollLeft;
        }

        /** The best breadth of a length that begins at a strip; the least one, if several are as good. */
        private void choose(Room room, int strip) {
            int seam = strip > 0 ? room.lightAt(strip - 1) + room.treadAt(strip - 1) : 0;
            int most = Math.min(room.rollBroad, end - strip);
            for (int b = 1; b <= most; b++) {
                int cut = room.lengthFor(strip, b) + at(cutFrom, strip + b);
                int seams = seam + at(seamsFrom, strip + b);
                if (b == 1 || isLess(cut, seams, strip)) {
                    put(cutFrom, strip, cut);
                    put(seamsFrom, strip, seams);
                    put(breadthFrom, strip, b);
                }
            }
        }

        private boolean isLess(int cut, int seams, int strip) {
            int least = at(cutFrom, strip);
            return cut < least || cut == least && seams < at(seamsFrom, strip);
        }

        int breadthOf(int k) {
            int strip = start;
            for (int i = 0; i < MOST_STRIPS && strip < end; i++) {
                int b = at(breadthFrom, strip);
                if (i == k) {
                    return b;
                }
                strip += b;
            }
            return NONE;
        }
    }

    /** The order to hook the free walls in. An order is told by its code: a wall is two bits, the first one highest. */
    private static final class HookOrder {
        private int free;
        private int bestCode;
        private int leastKicks;

        HookOrder() {
            leastKicks = NONE;
        }

        /** Codes rise as the orders do, so the first of several that are as good stays. */
        void make(Room room, Carpet carpet, Carpet trial) {
            free = 0;
            for (int w = 0; w < WALLS; w++) {
                free += carpet.isFree(w) ? 1 : 0;
            }
            leastKicks = NONE;
            for (int code = 0; code < 1 << 2 * free; code++) {
                int kicks = isOrder(carpet, code) ? kicksOf(room, carpet, trial, code) : NONE;
                if (kicks != NONE && (leastKicks == NONE || kicks < leastKicks)) {
                    leastKicks = kicks;
                    bestCode = code;
                }
            }
        }

        private int wallIn(int code, int k) {
            return code >> 2 * (free - 1 - k) & 3;
        }

        /** Whether a code names free walls only, each of them once. */
        private boolean isOrder(Carpet carpet, int code) {
            int named = 0;
            for (int k = 0; k < free; k++) {
                int w = wallIn(code, k);
                if (!carpet.isFree(w) || (named >> w & 1) == 1) {
                    return false;
                }
                named |= 1 << w;
            }
            return true;
        }

        private int kicksOf(Room room, Carpet carpet, Carpet trial, int code) {
            trial.copyFrom(carpet);
            int kicks = 0;
            for (int k = 0; k < free; k++) {
                int w = wallIn(code, k);
                int wanted = trial.hooked == 0 ? FIRST_TIGHTNESS : TIGHT_ENOUGH;
                int f = trial.leastKick(room, w, wanted);
                if (f == NONE) {
                    return NONE;
                }
                trial.hookOn(room, w, f);
                kicks += f;
            }
            return kicks;
        }

        int wallAt(int k) {
            return leastKicks != NONE && k < free ? wallIn(bestCode, k) : NONE;
        }
    }
}
