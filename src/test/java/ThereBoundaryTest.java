/** The boundary cases of promises 8 to 10: one method for each sentence that names one. */
final class ThereBoundaryTest {
    private static final int ALL = 511;
    /** Numbers that are no right ones for any argument, cut to fewer bits or not. */
    private static final int[] FAR = {
        Integer.MIN_VALUE, Integer.MIN_VALUE + 1, -65535, -255, -5, -1, 257, 65537, 1 << 30, Integer.MAX_VALUE
    };
    private static final String[] SPIRAL = {
        "........", "#######.", "......#.", ".####.#.", ".#.##.#.", ".#....#.", ".######.", "........"
    };

    public static void main(String[] args) {
        tellingWhetherThereIsAHedge();
        tellingNeighboursWithoutItself();
        tellingTheAgeOrOpen();
        tellingTheLawnOrHedge();
        tellingTheNextYear();
        tellingRefusesOtherCells();
        tellingRefusesOtherNumbers();
        countingAnOpenGarden();
        countingAFullGarden();
        countingTheLastOpenCell();
        countingOnlyByYears();
        countingTheMostLawns();
        countingEqualLawns();
        countingStillLawns();
        countingTheOldest();
        countingRefusesOtherNumbers();
        wayToItself();
        wayFromOrToAHedge();
        wayThereIsNot();
        wayRoundTheEdge();
        wayIsTheFewestSteps();
        wayIsTheLongest();
        wayRefusesOtherCells();
        Check.end();
    }

    private static void tellingWhetherThereIsAHedge() {
        HedgeGliders object = Gardens.of(false, "#..", "...", "..#");
        Check.due("8: a hedge in the first cell", 1, object.told(0, 0, 0));
        Check.due("8: a hedge in the last cell", 1, object.told(2, 2, 0));
        Check.due("8: none in another corner", 0, object.told(2, 0, 0));
        object.pass(1);
        Check.due("8: none behind it", 0, object.told(0, 0, 0));
    }

    private static void tellingNeighboursWithoutItself() {
        for (int around = 0; around <= 8; around++) {
            HedgeGliders object = Gardens.ringed(around);
            Check.due("8: around an open cell", around, object.told(1, 1, 1));
            object.turn(1, 1);
            Check.due("8: itself does not count", around, object.told(1, 1, 1));
        }
        HedgeGliders round = Gardens.of(true, "#..", "...", "...");
        Check.due("8: itself does not count round the edge", 0, round.told(0, 0, 1));
    }

    private static void tellingTheAgeOrOpen() {
        HedgeGliders object = Gardens.of(false, "#..", "...", "...");
        object.setRules(0, ALL);
        Check.due("8: a young one's age", 0, object.told(0, 0, 2));
        Check.due("8: an open cell's", -1, object.told(1, 0, 2));
        object.pass(50);
        object.pass(50);
        Check.due("8: an old one's age", 100, object.told(0, 0, 2));
        Check.due("8: an open cell's then", -1, object.told(2, 2, 2));
        object.turn(0, 0);
        Check.due("8: one's that is cut", -1, object.told(0, 0, 2));
        object.turn(0, 0);
        Check.due("8: one's that is planted again", 0, object.told(0, 0, 2));
        object.turn(2, 2);
        Check.due("8: one's where it was open for years", 0, object.told(2, 2, 2));
    }

    private static void tellingTheLawnOrHedge() {
        HedgeGliders object = Gardens.of(false, ".#..", "##..", "...#");
        Check.due("8: a lawn of one", 1, object.told(0, 0, 3));
        Check.due("8: a hedge has none", 0, object.told(1, 0, 3));
        Check.due("8: a lawn of more", 7, object.told(3, 1, 3));
        Check.due("8: the same lawn", 7, object.told(0, 2, 3));
        HedgeGliders open = new HedgeGliders();
        Check.due("8: a lawn of all", 64, open.told(7, 7, 3));
        HedgeGliders full = Gardens.full(true, 8, 8);
        Check.due("8: no lawn", 0, full.told(7, 7, 3));
        HedgeGliders spiral = Gardens.of(false, SPIRAL);
        Check.due("8: a lawn of many corners, from its one end", 39, spiral.told(0, 0, 3));
        Check.due("8: from its other end", 39, spiral.told(2, 4, 3));
    }

    private static void tellingTheNextYear() {
        HedgeGliders object = Gardens.of(false, "##..", "#...", "....");
        long before = object.digest();
        Check.due("8: one that will be born", 1, object.told(1, 1, 4));
        Check.due("8: one that will stay", 1, object.told(0, 0, 4));
        Check.due("8: none will be born", 0, object.told(3, 2, 4));
        Check.due("8: nothing is changed", before, object.digest());
        object.setRules(0, 0);
        Check.due("8: one that will die", 0, object.told(0, 0, 4));
        Check.due("8: it has a hedge yet", 1, object.told(0, 0, 0));
    }

    private static void tellingRefusesOtherCells() {
        for (boolean round : new boolean[] {false, true}) {
            HedgeGliders object = Gardens.full(round, 4, 7);
            Class<? extends Exception> index = IndexOutOfBoundsException.class;
            for (int what = 0; what <= 4; what++) {
                int asked = what;
                Check.refuses("8: x -1, " + what, object, index, () -> object.told(-1, 0, asked));
                Check.refuses("8: y -1, " + what, object, index, () -> object.told(0, -1, asked));
                Check.refuses("8: x 4, " + what, object, index, () -> object.told(4, 0, asked));
                Check.refuses("8: y 7, " + what, object, index, () -> object.told(0, 7, asked));
            }
            for (int far : FAR) {
                Check.refuses("8: x " + far, object, index, () -> object.told(far, 6, 0));
                Check.refuses("8: y " + far, object, index, () -> object.told(3, far, 0));
            }
        }
    }

    private static void tellingRefusesOtherNumbers() {
        HedgeGliders object = Gardens.full(false, 3, 3);
        Class<? extends Exception> index = IndexOutOfBoundsException.class;
        for (int far : FAR) {
            Check.refuses("8: what " + far, object, index, () -> object.told(1, 1, far));
        }
        for (int what = 5; what <= 11; what++) {
            int asked = what;
            Check.refuses("8: what " + what, object, index, () -> object.told(1, 1, asked));
        }
        Check.refuses("8: no cell and what 5", object, index, () -> object.told(3, 3, 5));
    }

    private static void countAll(String what, HedgeGliders object, int... due) {
        for (int i = 0; i < due.length; i++) {
            Check.due("9: " + what + ", count(" + i + ")", due[i], object.count(i));
        }
    }

    private static void countingAnOpenGarden() {
        HedgeGliders object = new HedgeGliders();
        countAll("an open one", object, 0, 8, 8, 0, 0, 0, 0, 1, 64, 1, -1);
        object.lay(3, 5);
        object.setEdge(true);
        countAll("the least wide one", object, 0, 3, 5, 0, 0, 0, 1, 1, 15, 1, -1);
    }

    private static void countingAFullGarden() {
        countAll("a full one", Gardens.full(false, 8, 8), 0, 8, 8, 64, 0, 0, 0, 0, 0, 0, 0);
        HedgeGliders object = Gardens.full(true, 7, 3);
        object.setRules(ALL, ALL);
        object.pass(50);
        countAll("an old full one", object, 50, 7, 3, 21, 0, 0, 1, 0, 0, 0, 50);
    }

    private static void countingTheLastOpenCell() {
        for (int cell : new int[] {0, 7, 36, 56, 63}) {
            HedgeGliders object = Gardens.full(false, 8, 8);
            object.turn(cell % 8, cell / 8);
            countAll("one open cell", object, 0, 8, 8, 63, 0, 0, 0, 1, 1);
        }
    }

    private static void countingOnlyByYears() {
        HedgeGliders object = new HedgeGliders();
        object.plant(2, 0, 0, 0);
        object.plant(3, 0, 4, 4);
        object.turn(7, 0);
        object.turn(0, 0);
        object.lay(5, 5);
        object.plant(0, 0, 0, 0);
        object.told(0, 0, 4);
        object.foresee(50, 4);
        object.period(0);
        object.advise(2);
        Check.due("9: no births but by years", 0, object.count(4));
        Check.due("9: no deaths but by years", 0, object.count(5));
        Check.due("9: no year but by passing", 0, object.count(0));
        HedgeGliders row = Gardens.ruled(false, 8, 12, "...../...../.###./...../.....");
        row.pass(1);
        Check.due("9: births by a year", 2, row.count(4));
        Check.due("9: deaths by a year", 2, row.count(5));
    }

    private static void countingTheMostLawns() {
        String[] rows = {".#.#.#.#", "#.#.#.#.", ".#.#.#.#", "#.#.#.#.", ".#.#.#.#", "#.#.#.#.", ".#.#.#.#", "#.#.#.#."};
        for (boolean round : new boolean[] {false, true}) {
            HedgeGliders object = Gardens.of(round, rows);
            Check.due("9: the most lawns", 32, object.count(7));
            Check.due("9: of one cell", 1, object.count(8));
            object.setRules(0, ALL);
            Check.due("9: all still", 32, object.count(9));
        }
        HedgeGliders odd = Gardens.of(true, ".#.#.", "#.#.#", ".#.#.");
        Check.due("9: odd sides that go round join some", 4, odd.count(7));
        odd.setEdge(false);
        Check.due("9: but not if they are shut", 8, odd.count(7));
    }

    private static void countingEqualLawns() {
        HedgeGliders object = Gardens.of(false, "...#...", "...#...", "####...", "..#####", "..#....");
        Check.due("9: four lawns", 4, object.count(7));
        Check.due("9: the greatest is neither the first nor the last", 9, object.count(8));
        object.turn(4, 2);
        object.turn(5, 2);
        object.turn(6, 2);
        Check.due("9: two of the same size", 6, object.count(8));
        object.turn(0, 0);
        Check.due("9: the greatest is a later one", 6, object.count(8));
    }

    private static void countingStillLawns() {
        HedgeGliders object = Gardens.of(false, ".#.##.#.", "########", ".#.##.#.", "########", "........");
        int[][] due = {{0, 9}, {1 << 3, 6}, {1 << 5, 5}, {1 << 2, 8}, {1 << 8, 7}, {ALL, 0}};
        for (int[] pair : due) {
            object.setRules(pair[0], ALL);
            Check.due("9: still with births " + pair[0], pair[1], object.count(9));
            Check.due("9: of nine lawns", 9, object.count(7));
        }
    }

    private static void countingTheOldest() {
        HedgeGliders object = Gardens.of(false, "...", "...", "..#");
        object.setRules(0, ALL);
        Check.due("9: the oldest is young", 0, object.count(10));
        object.pass(4);
        object.turn(0, 0);
        Check.due("9: the oldest is the last one", 4, object.count(10));
        object.turn(2, 2);
        Check.due("9: the oldest is cut", 0, object.count(10));
        object.turn(0, 0);
        Check.due("9: none is left", -1, object.count(10));
        object.turn(1, 1);
        object.pass(2);
        object.setRules(0, 0);
        object.pass(1);
        Check.due("9: none lives", -1, object.count(10));
    }

    private static void countingRefusesOtherNumbers() {
        HedgeGliders object = new HedgeGliders();
        for (int far : FAR) {
            Check.refuses("9: what " + far, object, IndexOutOfBoundsException.class, () -> object.count(far));
        }
        Check.refuses("9: what 11", object, IndexOutOfBoundsException.class, () -> object.count(11));
        Check.refuses("9: what 12", object, IndexOutOfBoundsException.class, () -> object.count(12));
    }

    private static void wayToItself() {
        for (boolean round : new boolean[] {false, true}) {
            HedgeGliders object = Gardens.of(round, ".##", "##.", "##.");
            Check.due("10: an open cell to itself", 0, object.way(2, 2, 2, 2));
            Check.due("10: one without another beside it", 0, object.way(0, 0, 0, 0));
            Check.due("10: a hedge to itself", -1, object.way(1, 1, 1, 1));
        }
    }

    private static void wayFromOrToAHedge() {
        HedgeGliders object = Gardens.of(false, "#..", "...", "..#");
        Check.due("10: from a hedge", -1, object.way(0, 0, 1, 0));
        Check.due("10: to a hedge", -1, object.way(1, 2, 2, 2));
        Check.due("10: from a hedge to a hedge", -1, object.way(0, 0, 2, 2));
        Check.due("10: between the hedges", 2, object.way(2, 0, 1, 1));
    }

    private static void wayThereIsNot() {
        HedgeGliders object = Gardens.of(false, ".#......", "#.......", "........");
        Check.due("10: no way out of a corner", -1, object.way(0, 0, 1, 1));
        Check.due("10: no way into it", -1, object.way(7, 2, 0, 0));
        object.setEdge(true);
        Check.due("10: but over the edge", 3, object.way(0, 0, 1, 1));
        HedgeGliders rows = Gardens.of(true, "........", "########", "........", "########");
        Check.due("10: no way round either", -1, rows.way(0, 0, 0, 2));
    }

    private static void wayRoundTheEdge() {
        for (int size = 0; size < 36; size++) {
            int w = 3 + size % 6;
            int h = 3 + size / 6;
            HedgeGliders object = new HedgeGliders();
            object.lay(w, h);
            object.setEdge(true);
            String at = "10: " + w + " by " + h + " round, ";
            Check.due(at + "left", 1, object.way(0, h - 1, w - 1, h - 1));
            Check.due(at + "right", 1, object.way(w - 1, 0, 0, 0));
            Check.due(at + "above", 1, object.way(w - 1, 0, w - 1, h - 1));
            Check.due(at + "below", 1, object.way(0, h - 1, 0, 0));
            Check.due(at + "over both", 2, object.way(0, 0, w - 1, h - 1));
            Check.due(at + "to the middle", w / 2 + h / 2, object.way(0, 0, w / 2, h / 2));
            object.setEdge(false);
            Check.due(at + "then shut", w + h - 2, object.way(0, h - 1, w - 1, 0));
        }
    }

    private static void wayIsTheFewestSteps() {
        HedgeGliders object = Gardens.of(false, ".....", ".###.", ".#...", ".#.#.", ".....");
        Check.due("10: one way is as long as the other", 8, object.way(0, 0, 4, 4));
        Check.due("10: the shorter way round", 6, object.way(2, 2, 0, 2));
        Check.due("10: beside a hedge", 4, object.way(4, 4, 2, 2));
        object.turn(0, 3);
        Check.due("10: the longer way is left", 10, object.way(2, 2, 0, 2));
    }

    private static void wayIsTheLongest() {
        HedgeGliders spiral = Gardens.of(false, SPIRAL);
        Check.due("10: into the spiral", 38, spiral.way(0, 0, 2, 4));
        Check.due("10: out of it", 38, spiral.way(2, 4, 0, 0));
        HedgeGliders comb = Gardens.of(false,
            ".#...#..", ".#.#.#.#", ".#.#.#.#", ".#.#.#.#", ".#.#.#.#", ".#.#.#.#", ".#.#.#.#", "...#...#");
        Check.due("10: up and down", 35, comb.way(0, 0, 7, 0));
        Check.due("10: down and up", 35, comb.way(7, 0, 0, 0));
    }

    private static void wayRefusesOtherCells() {
        for (boolean round : new boolean[] {false, true}) {
            HedgeGliders object = Gardens.of(round, "#...", "....", "....", "....", "....", "....", "....");
            Class<? extends Exception> index = IndexOutOfBoundsException.class;
            for (int far : FAR) {
                Check.refuses("10: x " + far, object, index, () -> object.way(far, 0, 1, 1));
                Check.refuses("10: y " + far, object, index, () -> object.way(0, far, 1, 1));
                Check.refuses("10: tx " + far, object, index, () -> object.way(1, 1, far, 0));
                Check.refuses("10: ty " + far, object, index, () -> object.way(1, 1, 0, far));
            }
            Check.refuses("10: x 4", object, index, () -> object.way(4, 6, 3, 6));
            Check.refuses("10: y 7", object, index, () -> object.way(3, 7, 3, 6));
            Check.refuses("10: tx 4", object, index, () -> object.way(3, 6, 4, 6));
            Check.refuses("10: ty 7", object, index, () -> object.way(3, 6, 3, 7));
            Check.refuses("10: from a hedge to no cell", object, index, () -> object.way(0, 0, 4, 0));
            Check.refuses("10: no cell to itself", object, index, () -> object.way(4, 7, 4, 7));
        }
    }
}
