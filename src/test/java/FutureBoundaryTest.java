import java.math.BigInteger;

/** The boundary cases of promises 11 to 16: one method for each sentence that names one. */
final class FutureBoundaryTest {
    private static final int ALL = 511;
    /** Numbers that are no right ones for any argument, cut to fewer bits or not. */
    private static final int[] FAR = {
        Integer.MIN_VALUE, Integer.MIN_VALUE + 1, -65535, -255, -3, -1, 257, 65537, 1 << 30, Integer.MAX_VALUE
    };

    public static void main(String[] args) {
        periodOfOneThatStaysAsItIs();
        periodOfAnOpenGarden();
        periodBehindSixtyYears();
        periodBehindSixtyOneYears();
        periodIsOfTheFirstThatComesAgain();
        periodChangesNothing();
        periodRefusesOtherNumbers();
        glidingBehindOneYear();
        glidingBehindThirtyYears();
        glidingBehindThirtyOneYears();
        glidingByTheLeastAndTheGreatestMoves();
        glidingNotByNone();
        glidingByTheLeastDyThenDx();
        glidingBehindTheLeastYears();
        glidingNotIfTheEdgeIsShut();
        glidingNotWithoutHedges();
        glidingChangesNothing();
        glidingRefusesOtherNumbers();
        foreseeingOneAndFiftyYears();
        foreseeingWhatIsInAll();
        foreseeingNoneOfThem();
        foreseeingRefusesOtherYears();
        foreseeingRefusesOtherNumbers();
        advisingTheSmallestOfSeveral();
        advisingForOneAndForTwoYears();
        advisingTheLastCell();
        advisingNoneBeyondTheGarden();
        advisingWithoutAnOpenCell();
        advisingIfThereAreNotMore();
        advisingChangesNothing();
        advisingRefusesOtherYears();
        meanWithoutHedges();
        meanOfYoungAndOld();
        meanIsNoWholeNumber();
        digestOfAnOpenGarden();
        digestOfAFullGarden();
        digestInOrder();
        Check.end();
    }

    private static void periodDue(String what, HedgeGliders object, int first, int more) {
        unchanged("11: " + what + ", period(0)", object, () -> object.period(0), first);
        unchanged("11: " + what + ", period(1)", object, () -> object.period(1), more);
    }

    private static void unchanged(String what, HedgeGliders object, Check.Call call, int due) {
        long before = object.digest();
        Check.due(what, "" + due, Check.outcome(call));
        Check.due(what + " changes nothing", before, object.digest());
    }

    private static void periodOfOneThatStaysAsItIs() {
        periodDue("a square", Gardens.ruled(false, 8, 12, "##../##../..../...."), 0, 1);
        periodDue("a full one that stays", Gardens.ruled(true, 0, ALL, "###/###/###"), 0, 1);
        periodDue("a row of two kinds", Gardens.ruled(false, 8, 12, "...../.###./....."), 0, 2);
    }

    private static void periodOfAnOpenGarden() {
        periodDue("an open one", new HedgeGliders(), 0, 1);
        periodDue("one that is open behind a year", Gardens.ruled(false, 0, 0, "###/#.#/###"), 1, 1);
        HedgeGliders bare = new HedgeGliders();
        bare.setRules(1, 0);
        periodDue("an open one that does not stay so", bare, 0, 2);
    }

    private static void periodBehindSixtyYears() {
        periodDue("behind 59 and 1", Gardens.ruled(false, 482, 437, "####./...#./.#.../....#/...../..#.."), 59, 1);
        periodDue("behind 0 and 60", Gardens.ruled(true, 234, 290, "..../.###/...#/..../#.#."), 0, 60);
        periodDue("behind 55 and 5", Gardens.ruled(false, 212, 489, ".../.../.##/#../.../##."), 55, 5);
        HedgeGliders round = Gardens.ruled(true, 234, 290, "..../.###/...#/..../#.#.");
        round.pass(50);
        round.pass(10);
        Check.due("11: behind 60 years it is there again", "..../.###/...#/..../#.#.", Gardens.picture(round));
    }

    private static void periodBehindSixtyOneYears() {
        HedgeGliders stays = Gardens.ruled(true, 8, 12,
            ".#.#..../###..###/#.#..#../....#.../####..../......../#.#.#.#./#.#....#");
        periodDue("behind 60 and 1", stays, -1, -1);
        stays.pass(1);
        periodDue("a year later", stays, 59, 1);
        HedgeGliders circle = Gardens.ruled(false, 43, 307, ".#.../...../....#/#...#");
        periodDue("behind 1 and 60", circle, -1, -1);
        circle.pass(1);
        periodDue("a year later in a circle", circle, 0, 60);
        HedgeGliders between = Gardens.ruled(false, 53, 374, "#....#/.#.#../.#...#");
        periodDue("behind 61 in all", between, -1, -1);
        between.pass(1);
        Check.due("11: a year later behind 60 in all", 60, between.period(0) + between.period(1));
    }

    private static void periodIsOfTheFirstThatComesAgain() {
        HedgeGliders glider = Gardens.ruled(false, 8, 12,
            ".#....../..#...../###...../......../......../......../......../........");
        int first = glider.period(0);
        Check.due("11: the corner's square stays", 1, glider.period(1));
        for (int year = 1; year <= first; year++) {
            glider.pass(1);
            Check.due("11: so many years are left", first - year, glider.period(0));
        }
        Check.due("11: it is the square", 4, glider.count(3));
        glider.pass(50);
        Check.due("11: it stays", 0, glider.period(0));
    }

    private static void periodChangesNothing() {
        HedgeGliders object = Gardens.ruled(true, 8, 62, "#.##./.#.../..#.#/#..../.##..");
        object.pass(2);
        long before = object.digest();
        int first = object.period(0);
        int more = object.period(1);
        Check.due("11: the same once more", first, object.period(0));
        Check.due("11: the same once more", more, object.period(1));
        Check.due("11: nothing is changed", before, object.digest());
    }

    private static void periodRefusesOtherNumbers() {
        HedgeGliders object = Gardens.full(true, 3, 3);
        for (int far : FAR) {
            Check.refuses("11: what " + far, object, IndexOutOfBoundsException.class, () -> object.period(far));
        }
        Check.refuses("11: what 2", object, IndexOutOfBoundsException.class, () -> object.period(2));
    }

    private static void glides(String what, HedgeGliders object, int years, int dx, int dy) {
        unchanged("12: " + what + ", years", object, () -> object.glides(0), years);
        unchanged("12: " + what + ", dx", object, () -> object.glides(1), dx);
        unchanged("12: " + what + ", dy", object, () -> object.glides(2), dy);
    }

    private static void glidingBehindOneYear() {
        glides("a row around", Gardens.ruled(true, 0, ALL, "...../#####/....."), 1, 1, 0);
        glides("a column around", Gardens.ruled(true, 0, ALL, "..#../..#../..#.."), 1, 0, 1);
        glides("chess that changes", Gardens.ruled(true, 1 << 4, 0, "#.#./.#.#/#.#./.#.#"), 1, 1, 0);
    }

    private static void glidingBehindThirtyYears() {
        HedgeGliders object = Gardens.ruled(true, 452, 394, "...../..#../#.#../.#.../.....");
        glides("behind 30 years", object, 30, 2, 2);
        object.pass(30);
        Check.due("12: there it is", "...#./...../...../....#/..#.#", Gardens.picture(object));
        glides("by the other side", Gardens.ruled(true, 148, 196, "#.#../...../...../....#/....."), 30, 4, 1);
    }

    private static void glidingBehindThirtyOneYears() {
        HedgeGliders late = Gardens.ruled(true, 362, 450, "...../..#../.#.../.#..#/.....");
        glides("behind 31 years", late, -1, -1, -1);
        late.pass(31);
        Check.due("12: there it is, too late", "..#../.#.../.#..#/...../.....", Gardens.picture(late));
    }

    private static void glidingByTheLeastAndTheGreatestMoves() {
        int[][] due = {{1, 1}, {7, 1}, {7, 6}, {1, 6}};
        for (int turns = 0; turns < 4; turns++) {
            HedgeGliders object = new HedgeGliders();
            object.lay(8, 7);
            object.setEdge(true);
            object.setRules(8, 12);
            object.plant(0, turns, 7, 6);
            glides("a glider on 8 by 7, turned " + turns, object, 4, due[turns][0], due[turns][1]);
        }
        glides("dx 0, dy h - 1", Gardens.ruled(true, 4, 352, "#.#../#..../..#../....."), 7, 0, 3);
        glides("dx w - 1, dy 0", Gardens.ruled(true, 469, 172, ".#../#.##/...#/##../.#.."), 10, 3, 0);
    }

    private static void glidingNotByNone() {
        glides("one that stays where it is", Gardens.ruled(true, 0, ALL, "#.../..../..../...."), -1, -1, -1);
        glides("a square", Gardens.ruled(true, 8, 12, "##.../##.../...../...../....."), -1, -1, -1);
        glides("a row of three that comes again", Gardens.ruled(true, 8, 12, "...../...../.###./...../....."), -1, -1, -1);
    }

    private static void glidingByTheLeastDyThenDx() {
        glides("the least dy of two, dx 0 and 3", Gardens.ruled(true, 0, ALL, "#...../...#../#...../...#.."), 1, 3, 1);
        glides("the least dx of more", Gardens.ruled(true, 0, ALL, "#.#.#.#./......../........"), 1, 2, 0);
        glides("dx ahead of dy, if dy is 0", Gardens.ruled(true, 0, ALL, "#..#../#..#../#..#.."), 1, 3, 0);
        glides("the greatest dx with the least dy", Gardens.ruled(true, 0, ALL, "...#/..#./.#../#..."), 1, 3, 1);
        glides("a full one", Gardens.ruled(true, 0, ALL, "####/####/####"), 1, 1, 0);
    }

    private static void glidingBehindTheLeastYears() {
        HedgeGliders object = Gardens.ruled(true, 0, ALL, "##.##./##.##./......");
        glides("behind one, though behind all others", object, 1, 3, 0);
        HedgeGliders glider = new HedgeGliders();
        glider.setEdge(true);
        glider.setRules(8, 12);
        glider.plant(0, 0, 3, 3);
        glides("behind four, though behind eight", glider, 4, 1, 1);
        glider.pass(3);
        glides("from a later year on", glider, 4, 1, 1);
    }

    private static void glidingNotIfTheEdgeIsShut() {
        glides("a shut glider", Gardens.ruled(false, 8, 12,
            ".#....../..#...../###...../......../......../......../......../........"), -1, -1, -1);
        HedgeGliders full = Gardens.ruled(false, 0, ALL, "###/###/###");
        glides("a shut full one", full, -1, -1, -1);
        full.setEdge(true);
        glides("then it goes round", full, 1, 1, 0);
    }

    private static void glidingNotWithoutHedges() {
        HedgeGliders open = new HedgeGliders();
        open.setEdge(true);
        glides("an open one", open, -1, -1, -1);
        open.setRules(1, 0);
        glides("an open one, though all come and go", open, -1, -1, -1);
        glides("one that dies out", Gardens.ruled(true, 0, 0, "###/###/###"), -1, -1, -1);
    }

    private static void glidingChangesNothing() {
        HedgeGliders object = Gardens.ruled(true, 8, 62, "#.##./.#.../..#.#/#..../.##..");
        object.pass(2);
        long before = object.digest();
        int years = object.glides(0);
        Check.due("12: the same once more", years, object.glides(0));
        Check.due("12: nothing is changed", before, object.digest());
    }

    private static void glidingRefusesOtherNumbers() {
        HedgeGliders object = new HedgeGliders();
        for (boolean round : new boolean[] {false, true}) {
            object.setEdge(round);
            for (int far : FAR) {
                Check.refuses("12: what " + far, object, IndexOutOfBoundsException.class, () -> object.glides(far));
            }
            Check.refuses("12: what 3", object, IndexOutOfBoundsException.class, () -> object.glides(3));
        }
    }

    private static HedgeGliders some(boolean round) {
        HedgeGliders object = Gardens.of(round, "#..##..#", "........", ".#.##...", "..#....#", "##......", "....#...");
        object.pass(3);
        object.turn(7, 5);
        return object;
    }

    private static void foreseeingOneAndFiftyYears() {
        for (boolean round : new boolean[] {false, true}) {
            for (int years : new int[] {1, 2, 49, 50}) {
                HedgeGliders object = some(round);
                HedgeGliders then = some(round);
                then.pass(years);
                for (int what : new int[] {3, 4, 5, 7, 8, 9, 10}) {
                    String call = "13: foresee(" + years + ", " + what + ")";
                    unchanged(call, object, () -> object.foresee(years, what), then.count(what));
                }
                object.pass(years);
                Check.due("13: it comes so", then.digest(), object.digest());
            }
        }
    }

    private static void foreseeingWhatIsInAll() {
        HedgeGliders object = new HedgeGliders();
        object.setRules(1, 0);
        object.pass(2);
        Check.due("13: births in all", 128, object.foresee(1, 4));
        Check.due("13: deaths in all", 64, object.foresee(1, 5));
        Check.due("13: deaths in all behind two", 128, object.foresee(2, 5));
        Check.due("13: births in all behind fifty", 64 * 26, object.foresee(50, 4));
        HedgeGliders old = Gardens.full(false, 3, 3);
        old.setRules(0, ALL);
        old.pass(7);
        Check.due("13: the oldest of all", 57, old.foresee(50, 10));
    }

    private static void foreseeingNoneOfThem() {
        HedgeGliders object = Gardens.full(true, 3, 3);
        object.setRules(0, 0);
        Check.due("13: no hedges", 0, object.foresee(1, 3));
        Check.due("13: one lawn", 1, object.foresee(1, 7));
        Check.due("13: of all cells", 9, object.foresee(1, 8));
        Check.due("13: that is still", 1, object.foresee(1, 9));
        Check.due("13: no oldest", -1, object.foresee(1, 10));
        HedgeGliders open = new HedgeGliders();
        open.setRules(1, ALL);
        Check.due("13: all full", 64, open.foresee(50, 3));
        Check.due("13: no lawns", 0, open.foresee(50, 7));
        Check.due("13: no greatest", 0, open.foresee(50, 8));
        Check.due("13: none still", 0, open.foresee(50, 9));
        Check.due("13: the oldest is born behind one year", 49, open.foresee(50, 10));
    }

    private static void foreseeingRefusesOtherYears() {
        HedgeGliders object = some(true);
        for (int years : FAR) {
            Check.refuses("13: years " + years, object, IllegalArgumentException.class, () -> object.foresee(years, 3));
        }
        for (int years : new int[] {0, 51, 52, -50}) {
            Check.refuses("13: years " + years, object, IllegalArgumentException.class, () -> object.foresee(years, 10));
        }
    }

    private static void foreseeingRefusesOtherNumbers() {
        HedgeGliders object = some(false);
        Class<? extends Exception> index = IndexOutOfBoundsException.class;
        for (int far : FAR) {
            Check.refuses("13: what " + far, object, index, () -> object.foresee(50, far));
        }
        for (int what : new int[] {0, 1, 2, 6, 11, 12}) {
            Check.refuses("13: what " + what, object, index, () -> object.foresee(1, what));
        }
    }

    private static void advisingTheSmallestOfSeveral() {
        HedgeGliders object = new HedgeGliders();
        object.setRules(0, 1);
        Check.due("14: the first of all", 0, object.advise(1));
        object.turn(0, 0);
        Check.due("14: the first that is not beside it", 2, object.advise(1));
        object.setEdge(true);
        Check.due("14: also round the edge", 2, object.advise(2));
        object.lay(3, 5);
        object.turn(1, 0);
        Check.due("14: w times y is added", 3 * 2, object.advise(1));
    }

    private static void advisingForOneAndForTwoYears() {
        HedgeGliders object = new HedgeGliders();
        object.setRules(2, 0);
        unchanged("14: eight come behind one year", object, () -> object.advise(1), 8 + 1);
        unchanged("14: four come behind two years", object, () -> object.advise(2), 2 * 8 + 2);
        object.lay(5, 7);
        Check.due("14: the same less wide", 5 + 1, object.advise(1));
        Check.due("14: the same less wide behind two years", 2 * 5 + 2, object.advise(2));
        object.setEdge(true);
        Check.due("14: round all are the same", 0, object.advise(1));
    }

    private static void advisingTheLastCell() {
        for (int[] size : new int[][] {{8, 8}, {3, 3}, {5, 8}, {8, 3}}) {
            HedgeGliders object = Gardens.full(false, size[0], size[1]);
            object.setRules(0, ALL);
            object.turn(size[0] - 1, size[1] - 1);
            Check.due("14: the last cell", size[0] * size[1] - 1, object.advise(1));
            Check.due("14: the last cell for two years", size[0] * size[1] - 1, object.advise(2));
        }
    }

    /** Beyond a garden that is less than 8 by 8 a hedge would stay alone. */
    private static void advisingNoneBeyondTheGarden() {
        HedgeGliders object = Gardens.ruled(false, 0, 1, ".../.#./...");
        Check.due("14: each open cell is beside the hedge", -1, object.advise(1));
        Check.due("14: each open cell is beside the hedge for two years", -1, object.advise(2));
        HedgeGliders wide = Gardens.ruled(false, 0, 1, "......../.#..#.#./........");
        Check.due("14: also in a wide one", -1, wide.advise(1));
        HedgeGliders high = Gardens.ruled(false, 0, 1, ".../.#./.../.../.#./.../.#./...");
        Check.due("14: also in a high one", -1, high.advise(2));
    }

    private static void advisingWithoutAnOpenCell() {
        HedgeGliders object = Gardens.full(true, 8, 8);
        Check.due("14: all die", -1, object.advise(1));
        object.setRules(0, ALL);
        Check.due("14: all stay", -1, object.advise(1));
        Check.due("14: all stay for two years", -1, object.advise(2));
    }

    private static void advisingIfThereAreNotMore() {
        HedgeGliders as = new HedgeGliders();
        as.setRules(ALL, ALL);
        Check.due("14: as many as without", -1, as.advise(1));
        Check.due("14: as many as without behind two years", -1, as.advise(2));
        as.setRules(0, 0);
        Check.due("14: none with and without", -1, as.advise(1));
        HedgeGliders fewer = Gardens.ruled(true, 0, 128, "###/#.#/###");
        Check.due("14: fewer than without", -1, fewer.advise(1));
        fewer.setRules(0, 256);
        Check.due("14: more than without", 4, fewer.advise(1));
    }

    private static void advisingChangesNothing() {
        HedgeGliders object = some(true);
        long before = object.digest();
        int one = object.advise(1);
        int two = object.advise(2);
        Check.due("14: the same once more", one, object.advise(1));
        Check.due("14: the same for two once more", two, object.advise(2));
        Check.due("14: nothing is changed", before, object.digest());
    }

    private static void advisingRefusesOtherYears() {
        HedgeGliders object = some(false);
        for (int years : FAR) {
            Check.refuses("14: years " + years, object, IllegalArgumentException.class, () -> object.advise(years));
        }
        for (int years : new int[] {0, 3, 4, 50}) {
            Check.refuses("14: years " + years, object, IllegalArgumentException.class, () -> object.advise(years));
        }
    }

    private static void meanWithoutHedges() {
        HedgeGliders object = new HedgeGliders();
        Check.due("15: a new object", 0.0, object.mean());
        object.plant(2, 0, 0, 0);
        object.pass(4);
        Check.due("15: a square that stays", 4.0, object.mean());
        object.lay(8, 8);
        Check.due("15: none is left", 0.0, object.mean());
        object.turn(3, 3);
        object.pass(1);
        Check.due("15: the only one died", 0.0, object.mean());
    }

    private static void meanOfYoungAndOld() {
        HedgeGliders object = Gardens.full(true, 8, 8);
        Check.due("15: all young", 0.0, object.mean());
        object.setRules(0, ALL);
        object.pass(50);
        Check.due("15: all old", 50.0, object.mean());
        object.plant(2, 0, 7, 7);
        Check.due("15: four of them young", 46.875, object.mean());
    }

    private static void meanIsNoWholeNumber() {
        HedgeGliders object = new HedgeGliders();
        object.setRules(0, ALL);
        object.turn(0, 0);
        object.pass(1);
        Check.due("15: the only one's", 1.0, object.mean());
        object.turn(7, 7);
        Check.due("15: a half", 0.5, object.mean());
        object.turn(7, 0);
        Check.due("15: a third", 1.0 / 3.0, object.mean());
        object.pass(9);
        Check.due("15: more", 28.0 / 3.0, object.mean());
    }

    private static long digest(int[] head, int[] cells) {
        BigInteger d = BigInteger.valueOf(1597);
        for (int x : head) {
            d = d.multiply(BigInteger.valueOf(31)).add(BigInteger.valueOf(x));
        }
        for (int x : cells) {
            d = d.multiply(BigInteger.valueOf(31)).add(BigInteger.valueOf(x));
        }
        return d.longValue();
    }

    private static int[] repeated(int times, int... cell) {
        int[] all = new int[times * cell.length];
        for (int i = 0; i < all.length; i++) {
            all[i] = cell[i % cell.length];
        }
        return all;
    }

    private static void digestOfAnOpenGarden() {
        HedgeGliders object = new HedgeGliders();
        int[] head = {0, 8, 8, 0, 0, 0, 0, 1, 64, 1, -1, 8, 62};
        unchangedDigest("a new object", object, digest(head, repeated(64, 0, 0, -1, 64, 0)));
        object.lay(3, 3);
        object.setRules(1, 0);
        int[] small = {0, 3, 3, 0, 0, 0, 0, 1, 9, 0, -1, 1, 0};
        unchangedDigest("the smallest", object, digest(small, repeated(9, 0, 0, -1, 9, 1)));
    }

    private static void digestOfAFullGarden() {
        HedgeGliders object = Gardens.full(true, 8, 8);
        int[] head = {0, 8, 8, 64, 0, 0, 1, 0, 0, 0, 0, 8, 62};
        unchangedDigest("a full one", object, digest(head, repeated(64, 1, 8, 0, 0, 0)));
        object.setRules(ALL, 256);
        object.pass(50);
        int[] old = {50, 8, 8, 64, 0, 0, 1, 0, 0, 0, 50, ALL, 256};
        unchangedDigest("an old full one", object, digest(old, repeated(64, 1, 8, 50, 0, 1)));
    }

    private static void digestInOrder() {
        HedgeGliders object = Gardens.of(false, "##.", "...", "...", "...");
        object.setRules(8, 2);
        object.pass(1);
        int[] head = {1, 3, 4, 2, 0, 0, 0, 1, 10, 1, 1, 8, 2};
        int[] cells = {
            1, 1, 1, 0, 1, 1, 1, 1, 0, 1, 0, 1, -1, 10, 0,
            0, 2, -1, 10, 0, 0, 2, -1, 10, 0, 0, 1, -1, 10, 0,
            0, 0, -1, 10, 0, 0, 0, -1, 10, 0, 0, 0, -1, 10, 0,
            0, 0, -1, 10, 0, 0, 0, -1, 10, 0, 0, 0, -1, 10, 0,
        };
        unchangedDigest("row by row", object, digest(head, cells));
    }

    private static void unchangedDigest(String what, HedgeGliders object, long due) {
        Check.due("16: " + what, due, object.digest());
        Check.due("16: " + what + " once more", due, object.digest());
    }
}
