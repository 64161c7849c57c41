/**
 * A maze of hedges that grows by rules.
 *
 * A set of cells is a long: the cell x, y is its bit 8 * y + x, however wide the garden is.
 * So a whole garden is moved, compared and grown without an index that could be wrong.
 */
public final class HedgeGliders {
    private static final int LEAST_SIDE = 3;
    private static final int GREATEST_SIDE = 8;
    private static final int ALL_NUMBERS = 511;
    private static final int MOST_YEARS = 50;
    private static final int YEARS_OF_A_GLIDE = 30;
    private static final int YEARS_OF_A_PERIOD = 60;
    private static final int COUNTS = 11;
    private static final int FACTS = 5;
    private static final int COUNT_OF_EDGE = 6;

    private final Ground ground = new Ground();
    private final Rules rules = new Rules(ground);
    private final Garden garden = new Garden(ground, rules);
    private final Garden foreseen = new Garden(ground, rules);
    private final long[] coming = new long[YEARS_OF_A_PERIOD + 1];

    public HedgeGliders() {
        ground.resize(GREATEST_SIDE, GREATEST_SIDE);
    }

    // ---- the garden

    public int lay(int w, int h) throws IllegalArgumentException {
        if (!isSide(w) || !isSide(h)) {
            throw new IllegalArgumentException("a side is 3 to 8");
        }
        int before = garden.size();
        garden.cut(garden.hedges());
        ground.resize(w, h);
        return before;
    }

    public int setRules(int births, int stays) throws IllegalArgumentException {
        if (!isSetOfNumbers(births) || !isSetOfNumbers(stays)) {
            throw new IllegalArgumentException("births and stays are 0 to 511");
        }
        int before = 512 * rules.births() + rules.stays();
        rules.replace(births, stays);
        return before;
    }

    public boolean setEdge(boolean goesRound) {
        boolean before = ground.isRound();
        ground.makeRound(goesRound);
        return before;
    }

    public int turn(int x, int y) throws IndexOutOfBoundsException {
        if (!ground.has(x, y)) {
            throw new IndexOutOfBoundsException("no such cell");
        }
        long cell = Ground.cell(x, y);
        if (garden.hasHedge(cell)) {
            garden.cut(cell);
        } else {
            garden.putYoung(cell);
        }
        return garden.size();
    }

    public int plant(int figure, int turns, int x, int y) throws IndexOutOfBoundsException, IllegalStateException {
        if (!isQuarter(figure) || !isQuarter(turns) || !ground.has(x, y)) {
            throw new IndexOutOfBoundsException("no such figure, turns or cell");
        }
        int picture = Figures.turned(Figures.picture(figure), turns);
        if (!ground.isRound() && !Figures.fits(picture, x, y, ground)) {
            throw new IllegalStateException("the figure is beyond the edge");
        }
        garden.putYoung(Figures.cells(picture, x, y, ground));
        return garden.size();
    }

    public int pass(int years) throws IllegalArgumentException {
        if (!isYears(years)) {
            throw new IllegalArgumentException("years are 1 to 50");
        }
        garden.growYears(years);
        return garden.size();
    }

    // ---- what there is

    public int told(int x, int y, int what) throws IndexOutOfBoundsException {
        if (!ground.has(x, y) || what < 0 || what >= FACTS) {
            throw new IndexOutOfBoundsException("no such cell, or nothing of this number is told");
        }
        return fact(x, y, what);
    }

    public int count(int what) throws IndexOutOfBoundsException {
        if (what < 0 || what >= COUNTS) {
            throw new IndexOutOfBoundsException("nothing of this number is counted");
        }
        return counted(garden, what);
    }

    public int way(int x, int y, int tx, int ty) throws IndexOutOfBoundsException {
        if (!ground.has(x, y) || !ground.has(tx, ty)) {
            throw new IndexOutOfBoundsException("no such cell");
        }
        return ground.steps(Ground.cell(x, y), Ground.cell(tx, ty), garden.open());
    }

    // ---- what would be

    public int period(int what) throws IndexOutOfBoundsException {
        if (what < 0 || what > 1) {
            throw new IndexOutOfBoundsException("what is 0 or 1");
        }
        foreseeComing();
        for (int first = 0; first < coming.length; first++) {
            for (int again = first + 1; again < coming.length; again++) {
                if (coming[first] == coming[again]) {
                    return what == 0 ? first : again - first;
                }
            }
        }
        return -1;
    }

    public int glides(int what) throws IndexOutOfBoundsException {
        if (what < 0 || what > 2) {
            throw new IndexOutOfBoundsException("what is 0 to 2");
        }
        if (!ground.isRound() || garden.size() == 0) {
            return -1;
        }
        long then = garden.hedges();
        for (int years = 1; years <= YEARS_OF_A_GLIDE; years++) {
            then = rules.behindYears(then, 1);
            int move = ground.moveBetween(garden.hedges(), then);
            if (move > 0) {
                return glideFact(years, move, what);
            }
        }
        return -1;
    }

    public int foresee(int years, int what) throws IllegalArgumentException, IndexOutOfBoundsException {
        if (!isYears(years)) {
            throw new IllegalArgumentException("years are 1 to 50");
        }
        if (what < 3 || what >= COUNTS || what == COUNT_OF_EDGE) {
            throw new IndexOutOfBoundsException("nothing of this number is foreseen");
        }
        foreseen.copyFrom(garden);
        foreseen.growYears(years);
        return counted(foreseen, what);
    }

    public int advise(int years) throws IllegalArgumentException {
        if (years < 1 || years > 2) {
            throw new IllegalArgumentException("years are 1 or 2");
        }
        int best = -1;
        int most = sizeBehind(years, garden.hedges());
        for (int y = 0; y < ground.high(); y++) {
            for (int x = 0; x < ground.wide(); x++) {
                long cell = Ground.cell(x, y);
                if (garden.hasHedge(cell)) {
                    continue;
                }
                int size = sizeBehind(years, garden.hedges() | cell);
                if (size > most) {
                    most = size;
                    best = ground.wide() * y + x;
                }
            }
        }
        return best;
    }

    public double mean() {
        int hedges = garden.size();
        return hedges > 0 ? (double) garden.ageOfAll() / (double) hedges : 0.0;
    }

    public long digest() {
        long d = 1597;
        for (int what = 0; what < COUNTS; what++) {
            d = d * 31 + counted(garden, what);
        }
        d = d * 31 + rules.births();
        d = d * 31 + rules.stays();
        for (int y = 0; y < ground.high(); y++) {
            for (int x = 0; x < ground.wide(); x++) {
                for (int what = 0; what < FACTS; what++) {
                    d = d * 31 + fact(x, y, what);
                }
            }
        }
        return d;
    }

    // ---- behind the face

    private static boolean isSide(int length) {
        return length >= LEAST_SIDE && length <= GREATEST_SIDE;
    }

    private static boolean isSetOfNumbers(int numbers) {
        return numbers >= 0 && numbers <= ALL_NUMBERS;
    }

    private static boolean isQuarter(int number) {
        return number >= 0 && number <= 3;
    }

    private static boolean isYears(int years) {
        return years >= 1 && years <= MOST_YEARS;
    }

    private int fact(int x, int y, int what) {
        long cell = Ground.cell(x, y);
        switch (what) {
            case 0:
                return garden.hasHedge(cell) ? 1 : 0;
            case 1:
                return rules.neighbours(garden.hedges(), cell);
            case 2:
                return garden.hasHedge(cell) ? garden.age(x, y) : -1;
            case 3:
                return Long.bitCount(ground.lawn(cell, garden.open()));
            default:
                return (rules.behindYears(garden.hedges(), 1) & cell) != 0 ? 1 : 0;
        }
    }

    private int counted(Garden which, int what) {
        switch (what) {
            case 0:
                return which.year();
            case 1:
                return ground.wide();
            case 2:
                return ground.high();
            case 3:
                return which.size();
            case 4:
                return which.birthsInAll();
            case 5:
                return which.deathsInAll();
            case COUNT_OF_EDGE:
                return ground.isRound() ? 1 : 0;
            case 7:
                return which.lawns();
            case 8:
                return which.greatestLawn();
            case 9:
                return which.stillLawns();
            default:
                return which.oldest();
        }
    }

    private void foreseeComing() {
        long hedges = garden.hedges();
        for (int years = 0; years < coming.length; years++) {
            coming[years] = hedges;
            hedges = rules.behindYears(hedges, 1);
        }
    }

    private static int glideFact(int years, int move, int what) {
        if (what == 0) {
            return years;
        }
        return what == 1 ? Ground.moveX(move) : Ground.moveY(move);
    }

    private int sizeBehind(int years, long hedges) {
        return Long.bitCount(rules.behindYears(hedges, years));
    }

    /** How wide and high the garden is and what its edge does: here sets of cells are moved. */
    private static final class Ground {
        private static final int CELLS = 64;
        private static final int ROW = 8;

        private int wide;
        private int high;
        private boolean round;
        private long inside;
        private long firstColumn;
        private long lastColumn;
        private long firstRow;
        private long lastRow;

        static long cell(int x, int y) {
            return 1L << (ROW * y + x);
        }

        static int moveX(int move) {
            return move & (ROW - 1);
        }

        static int moveY(int move) {
            return move >> 3;
        }

        void resize(int w, int h) {
            wide = w;
            high = h;
            firstRow = (1L << w) - 1;
            lastRow = firstRow << (ROW * (h - 1));
            firstColumn = 0;
            inside = 0;
            for (int y = 0; y < h; y++) {
                firstColumn |= cell(0, y);
                inside |= firstRow << (ROW * y);
            }
            lastColumn = firstColumn << (w - 1);
        }

        void makeRound(boolean goesRound) {
            round = goesRound;
        }

        int wide() {
            return wide;
        }

        int high() {
            return high;
        }

        boolean isRound() {
            return round;
        }

        boolean has(int x, int y) {
            return x >= 0 && x < wide && y >= 0 && y < high;
        }

        long open(long hedges) {
            return inside & ~hedges;
        }

        long left(long cells) {
            long moved = (cells & ~firstColumn) >>> 1;
            return round ? moved | (cells & firstColumn) << (wide - 1) : moved;
        }

        long right(long cells) {
            long moved = (cells & ~lastColumn) << 1;
            return round ? moved | (cells & lastColumn) >>> (wide - 1) : moved;
        }

        long up(long cells) {
            long moved = (cells & ~firstRow) >>> ROW;
            return round ? moved | (cells & firstRow) << (ROW * (high - 1)) : moved;
        }

        long down(long cells) {
            long moved = (cells & ~lastRow) << ROW;
            return round ? moved | (cells & lastRow) >>> (ROW * (high - 1)) : moved;
        }

        private long withBeside(long cells, long open) {
            return (cells | left(cells) | right(cells) | up(cells) | down(cells)) & open;
        }

        /** The open cells that hang together with a cell; none, if it is not open itself. */
        long lawn(long cell, long open) {
            long lawn = cell & open;
            for (int step = 0; step < CELLS; step++) {
                long wider = withBeside(lawn, open);
                if (wider == lawn) {
                    break;
                }
                lawn = wider;
            }
            return lawn;
        }

        /** The fewest steps over open cells from one cell to another one, or -1. */
        int steps(long from, long to, long open) {
            long reached = from & open;
            for (int steps = 0; steps < CELLS; steps++) {
                if ((reached & to) != 0) {
                    return steps;
                }
                reached = withBeside(reached, open);
            }
            return -1;
        }

        /** By what a set of cells is moved to be another one: 8 * dy + dx, the least that is not 0; -1 by none. */
        int moveBetween(long cells, long others) {
            long lower = cells;
            for (int dy = 0; dy < high; dy++) {
                long moved = lower;
                for (int dx = 0; dx < wide; dx++) {
                    if (moved == others && dx + dy > 0) {
                        return ROW * dy + dx;
                    }
                    moved = right(moved);
                }
                lower = down(lower);
            }
            return -1;
        }
    }

    /** How many hedges are around each of all cells, told by four sets of cells: one for each bit of that number. */
    private static final class Crowd {
        private long ones;
        private long twos;
        private long fours;
        private long eights;

        void lookAround(long hedges, Ground ground) {
            ones = 0;
            twos = 0;
            fours = 0;
            eights = 0;
            long above = ground.up(hedges);
            long below = ground.down(hedges);
            add(ground.left(above));
            add(above);
            add(ground.right(above));
            add(ground.left(hedges));
            add(ground.right(hedges));
            add(ground.left(below));
            add(below);
            add(ground.right(below));
        }

        private void add(long cells) {
            long toTwos = ones & cells;
            ones ^= cells;
            long toFours = twos & toTwos;
            twos ^= toTwos;
            long toEights = fours & toFours;
            fours ^= toFours;
            eights |= toEights;
        }

        /** The cells with so many around, among them cells that the garden does not have. */
        long cellsWith(int number) {
            return (bit(number, 1) ? ones : ~ones)
                & (bit(number, 2) ? twos : ~twos)
                & (bit(number, 4) ? fours : ~fours)
                & (bit(number, 8) ? eights : ~eights);
        }

        private static boolean bit(int number, int value) {
            return (number & value) != 0;
        }

        int around(long cell) {
            return worth(ones & cell, 1) + worth(twos & cell, 2) + worth(fours & cell, 4) + worth(eights & cell, 8);
        }

        private static int worth(long cells, int value) {
            return cells != 0 ? value : 0;
        }
    }

    /** With how many around hedges are born and stay, and what a year makes of a garden by that. */
    private static final class Rules {
        private static final int MOST_NEIGHBOURS = 8;

        private final Ground ground;
        private final Crowd crowd = new Crowd();
        private int births = 8;
        private int stays = 62;

        Rules(Ground ground) {
            this.ground = ground;
        }

        int births() {
            return births;
        }

        int stays() {
            return stays;
        }

        void replace(int newBirths, int newStays) {
            births = newBirths;
            stays = newStays;
        }

        int neighbours(long hedges, long cell) {
            crowd.lookAround(hedges, ground);
            return crowd.around(cell);
        }

        long born(long hedges) {
            crowd.lookAround(hedges, ground);
            return ground.open(hedges) & cellsWithOneOf(births);
        }

        long staying(long hedges) {
            crowd.lookAround(hedges, ground);
            return hedges & cellsWithOneOf(stays);
        }

        private long cellsWithOneOf(int numbers) {
            long cells = 0;
            for (int number = 0; number <= MOST_NEIGHBOURS; number++) {
                if ((numbers >> number & 1) != 0) {
                    cells |= crowd.cellsWith(number);
                }
            }
            return cells;
        }

        long behindYears(long hedges, int years) {
            long then = hedges;
            for (int year = 0; year < years; year++) {
                then = born(then) | staying(then);
            }
            return then;
        }
    }

    /** The hedges with their ages, and what the years have counted. */
    private static final class Garden {
        private final Ground ground;
        private final Rules rules;
        private final int[] ages = new int[Ground.CELLS];
        private long hedges;
        private int year;
        private int births;
        private int deaths;

        Garden(Ground ground, Rules rules) {
            this.ground = ground;
            this.rules = rules;
        }

        void copyFrom(Garden other) {
            for (int i = 0; i < ages.length && i < other.ages.length; i++) {
                ages[i] = other.ages[i];
            }
            hedges = other.hedges;
            year = other.year;
            births = other.births;
            deaths = other.deaths;
        }

        long hedges() {
            return hedges;
        }

        long open() {
            return ground.open(hedges);
        }

        boolean hasHedge(long cell) {
            return (hedges & cell) != 0;
        }

        int size() {
            return Long.bitCount(hedges);
        }

        int year() {
            return year;
        }

        int birthsInAll() {
            return births;
        }

        int deathsInAll() {
            return deaths;
        }

        void putYoung(long cells) {
            hedges |= cells;
            for (int i = 0; i < ages.length; i++) {
                if ((cells >>> i & 1) != 0) {
                    ages[i] = 0;
                }
            }
        }

        void cut(long cells) {
            hedges &= ~cells;
        }

        void growYears(int years) {
            for (int i = 0; i < years; i++) {
                growYear();
            }
        }

        private void growYear() {
            long born = rules.born(hedges);
            long staying = rules.staying(hedges);
            births += Long.bitCount(born);
            deaths += Long.bitCount(hedges & ~staying);
            hedges = staying;
            for (int i = 0; i < ages.length; i++) {
                // What an open cell holds here is told to nobody: the next hedge there starts with 0.
                ages[i]++;
            }
            putYoung(born);
            year++;
        }

        int age(int x, int y) {
            int i = Ground.ROW * y + x;
            return i >= 0 && i < ages.length ? ages[i] : -1;
        }

        int ageOfAll() {
            int sum = 0;
            for (int i = 0; i < ages.length; i++) {
                if ((hedges >>> i & 1) != 0) {
                    sum += ages[i];
                }
            }
            return sum;
        }

        int oldest() {
            int oldest = -1;
            for (int i = 0; i < ages.length; i++) {
                if ((hedges >>> i & 1) != 0 && ages[i] > oldest) {
                    oldest = ages[i];
                }
            }
            return oldest;
        }

        int lawns() {
            return lawnsWithout(0);
        }

        int stillLawns() {
            return lawnsWithout(rules.born(hedges));
        }

        /** How many lawns have none of these cells. */
        private int lawnsWithout(long cells) {
            int lawns = 0;
            long rest = open();
            // rest & -rest is the first of the cells that are left.
            for (int i = 0; i < Ground.CELLS && rest != 0; i++) {
                long lawn = ground.lawn(rest & -rest, open());
                rest &= ~lawn;
                if ((lawn & cells) == 0) {
                    lawns++;
                }
            }
            return lawns;
        }

        int greatestLawn() {
            int greatest = 0;
            long rest = open();
            for (int i = 0; i < Ground.CELLS && rest != 0; i++) {
                long lawn = ground.lawn(rest & -rest, open());
                rest &= ~lawn;
                greatest = Math.max(greatest, Long.bitCount(lawn));
            }
            return greatest;
        }
    }

    /** The figures: pictures of 3 by 3 cells, in which the cell x, y is the bit 3 * y + x. */
    private static final class Figures {
        private static final int SIDE = 3;
        // The lowest row is written first, and each row from the right to the left.
        private static final int GLIDER = 0b111_100_010;
        private static final int ROW_OF_THREE = 0b000_111_000;
        private static final int SQUARE = 0b000_011_011;
        private static final int CROSS = 0b010_111_010;

        static int picture(int figure) {
            switch (figure) {
                case 0:
                    return GLIDER;
                case 1:
                    return ROW_OF_THREE;
                case 2:
                    return SQUARE;
                default:
                    return CROSS;
            }
        }

        private static boolean has(int picture, int x, int y) {
            return (picture >> (SIDE * y + x) & 1) != 0;
        }

        static int turned(int picture, int turns) {
            int turned = picture;
            for (int i = 0; i < turns; i++) {
                turned = turnedOnce(turned);
            }
            return turned;
        }

        private static int turnedOnce(int picture) {
            int turned = 0;
            for (int y = 0; y < SIDE; y++) {
                for (int x = 0; x < SIDE; x++) {
                    if (has(picture, x, y)) {
                        turned |= 1 << (SIDE * x + SIDE - 1 - y);
                    }
                }
            }
            return turned;
        }

        static boolean fits(int picture, int left, int top, Ground ground) {
            for (int y = 0; y < SIDE; y++) {
                for (int x = 0; x < SIDE; x++) {
                    if (has(picture, x, y) && !ground.has(left + x, top + y)) {
                        return false;
                    }
                }
            }
            return true;
        }

        static long cells(int picture, int left, int top, Ground ground) {
            long cells = 0;
            for (int y = 0; y < SIDE; y++) {
                for (int x = 0; x < SIDE; x++) {
                    if (has(picture, x, y)) {
                        cells |= Ground.cell(wrapped(left + x, ground.wide()), wrapped(top + y, ground.high()));
                    }
                }
            }
            return cells;
        }

        // A figure is no wider than the smallest garden: it goes round at most once.
        private static int wrapped(int place, int side) {
            return place < side ? place : place - side;
        }
    }
}
