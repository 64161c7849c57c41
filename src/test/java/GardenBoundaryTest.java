/** The boundary cases of promises 1 to 7: one method for each sentence that names one. */
final class GardenBoundaryTest {
    private static final int ALL = 511;
    /** Numbers that are no right ones for any argument, cut to fewer bits or not. */
    private static final int[] FAR = {
        Integer.MIN_VALUE, Integer.MIN_VALUE + 5, -65533, -253, -5, -1, 512, 513, 1027, 65539, 1 << 30, Integer.MAX_VALUE
    };

    public static void main(String[] args) {
        newGardenIsOpen();
        newGardenIsOfTheYearNone();
        layingOpensAllCells();
        layingAnOpenGarden();
        layingTheSameSize();
        layingIsNoDeath();
        layingKeepsWhatStays();
        layingRefusesOtherSides();
        rulesAnswerThoseBefore();
        rulesHoldFromNowOn();
        rulesRefuseOtherNumbers();
        edgeAnswersWhetherItDid();
        edgeHoldsFromNowOn();
        turningPlantsAndCuts();
        turningIsNoBirthAndNoDeath();
        turningToFullAndToOpen();
        turningRefusesOtherCells();
        plantingAllFiguresInAllPlaces();
        plantingMakesOthersYoung();
        plantingTurnsAheadOfMoving();
        plantingRefusesOtherFigures();
        plantingRefusesOtherCells();
        plantingRefusesBeyondAShutEdge();
        passingTheFewestAndTheMostYears();
        passingIsYearByYear();
        passingInFullAndOpenGardens();
        passingRefusesOtherYears();
        Check.end();
    }

    private static void newGardenIsOpen() {
        HedgeGliders object = new HedgeGliders();
        Check.due("1: open", "......../......../......../......../......../......../......../........",
            Gardens.picture(object));
        Check.due("1: hedges", 0, object.count(3));
        Check.due("1: oldest", -1, object.count(10));
        Check.due("1: one lawn", 1, object.count(7));
        Check.due("1: of 64 cells", 64, object.count(8));
    }

    private static void newGardenIsOfTheYearNone() {
        HedgeGliders object = new HedgeGliders();
        Check.due("1: year", 0, object.count(0));
        Check.due("1: births", 0, object.count(4));
        Check.due("1: deaths", 0, object.count(5));
        HedgeGliders other = new HedgeGliders();
        other.pass(50);
        other.setEdge(true);
        other.setRules(1, 1);
        other.lay(3, 3);
        Check.due("1: each object for itself, year", 0, object.count(0));
        Check.due("1: each object for itself, w", 8, object.count(1));
        Check.due("1: one that is made later, year", 0, new HedgeGliders().count(0));
        Check.due("1: one that is made later, rules", 512 * 8 + 62, new HedgeGliders().setRules(0, 0));
        Check.due("1: one that is made later, edge", 0, new HedgeGliders().count(6));
    }

    private static void layingOpensAllCells() {
        for (int size = 0; size < 36; size++) {
            int w = 3 + size % 6;
            int h = 3 + size / 6;
            HedgeGliders object = Gardens.full(false, w, h);
            int next = 35 - size;
            Check.due("2: laid over " + w + " by " + h, w * h, object.lay(3 + next % 6, 3 + next / 6));
            Check.due("2: w", 3 + next % 6, object.count(1));
            Check.due("2: h", 3 + next / 6, object.count(2));
            Check.due("2: no hedges", 0, object.count(3));
            Check.due("2: one lawn of all cells", (3 + next % 6) * (3 + next / 6), object.count(8));
            object.lay(w, h);
            Check.due("2: none is left of before", 0, object.count(3));
        }
    }

    private static void layingAnOpenGarden() {
        HedgeGliders object = new HedgeGliders();
        Check.due("2: there were none", 0, object.lay(3, 3));
        Check.due("2: there are none", 0, object.lay(8, 8));
    }

    private static void layingTheSameSize() {
        HedgeGliders object = Gardens.full(true, 5, 4);
        object.setRules(0, ALL);
        object.pass(7);
        Check.due("2: the same size, hedges before", 20, object.lay(5, 4));
        Check.due("2: the same size is open", ("/.....").repeat(4).substring(1), Gardens.picture(object));
        object.turn(4, 3);
        Check.due("2: a hedge is young there", 0, object.told(4, 3, 2));
        Check.due("2: and the oldest", 0, object.count(10));
    }

    private static void layingIsNoDeath() {
        HedgeGliders object = Gardens.full(false, 8, 8);
        object.lay(8, 8);
        Check.due("2: no deaths", 0, object.count(5));
        object.pass(1);
        Check.due("2: no deaths in the next year", 0, object.count(5));
    }

    private static void layingKeepsWhatStays() {
        HedgeGliders object = Gardens.of(true, "...", ".#.", "...");
        object.setRules(2, 0);
        object.pass(3);
        int births = object.count(4);
        int deaths = object.count(5);
        Check.due("2: there are births ahead of it", 1, births > 0 && deaths > 0 ? 1 : 0);
        object.lay(8, 3);
        Check.due("2: the year stays", 3, object.count(0));
        Check.due("2: births stay", births, object.count(4));
        Check.due("2: deaths stay", deaths, object.count(5));
        Check.due("2: the edge stays", 1, object.count(6));
        object.turn(0, 0);
        Check.due("2: the edge of the new size goes round", 1, object.told(7, 2, 1));
        Check.due("2: the rules stay", 512 * 2, object.setRules(0, 0));
    }

    private static void layingRefusesOtherSides() {
        HedgeGliders object = Gardens.full(false, 4, 6);
        for (int side : new int[] {2, 9, 0, 1, 10, 259, 64, 8 + 65536}) {
            layRefused(object, side);
        }
        for (int side : FAR) {
            layRefused(object, side);
        }
        Check.refuses("2: both", object, IllegalArgumentException.class, () -> object.lay(2, 9));
        Check.due("2: the least", 24, object.lay(3, 3));
        Check.due("2: the greatest", 0, object.lay(8, 8));
    }

    private static void layRefused(HedgeGliders object, int side) {
        Check.refuses("2: w " + side, object, IllegalArgumentException.class, () -> object.lay(side, 3));
        Check.refuses("2: h " + side, object, IllegalArgumentException.class, () -> object.lay(8, side));
    }

    private static void rulesAnswerThoseBefore() {
        HedgeGliders object = new HedgeGliders();
        Check.due("3: those at first", 512 * 8 + 62, object.setRules(0, 0));
        Check.due("3: none", 0, object.setRules(ALL, ALL));
        Check.due("3: all", 512 * 511 + 511, object.setRules(256, 1));
        Check.due("3: births 256, stays 1", 512 * 256 + 1, object.setRules(1, 256));
        Check.due("3: births 1, stays 256", 512 + 256, object.setRules(8, 62));
        for (int bit = 0; bit <= 8; bit++) {
            object.setRules(1 << bit, ALL - (1 << bit));
            Check.due("3: bit " + bit, 512 * (1 << bit) + ALL - (1 << bit), object.setRules(0, 0));
        }
    }

    private static void rulesHoldFromNowOn() {
        HedgeGliders object = Gardens.full(false, 3, 3);
        object.setRules(0, ALL);
        object.pass(1);
        object.setRules(0, 0);
        Check.due("3: those that stayed are there", 9, object.count(3));
        Check.due("3: told is of the next year", 0, object.told(1, 1, 4));
        Check.due("3: foreseen by them", 0, object.foresee(1, 3));
        Check.due("3: passed by them", 0, object.pass(1));
    }

    private static void rulesRefuseOtherNumbers() {
        HedgeGliders object = new HedgeGliders();
        for (int bits : FAR) {
            Check.refuses("3: births " + bits, object, IllegalArgumentException.class, () -> object.setRules(bits, 0));
            Check.refuses("3: stays " + bits, object, IllegalArgumentException.class, () -> object.setRules(ALL, bits));
        }
        Check.due("3: no births and all stays are right", 512 * 8 + 62, object.setRules(0, ALL));
        Check.due("3: all births and no stays are right", ALL, object.setRules(ALL, 0));
    }

    private static void edgeAnswersWhetherItDid() {
        HedgeGliders object = new HedgeGliders();
        boolean[] next = {false, false, true, true, false, true, false};
        boolean before = false;
        for (boolean goesRound : next) {
            Check.due("4: before " + goesRound, before ? 1 : 0, object.setEdge(goesRound) ? 1 : 0);
            Check.due("4: now", goesRound ? 1 : 0, object.count(6));
            before = goesRound;
        }
    }

    private static void edgeHoldsFromNowOn() {
        HedgeGliders object = Gardens.of(false, "##...", ".....", ".....", "#....");
        object.setEdge(true);
        Check.due("4: the hedges stay", "##.../...../...../#....", Gardens.picture(object));
        Check.due("4: round, a corner sees the others", 2, object.told(0, 0, 1));
        Check.due("4: round, three meet over the edge", 3, object.told(1, 3, 1));
        Check.due("4: round, the other corner sees two", 2, object.told(4, 3, 1));
        object.setEdge(false);
        Check.due("4: shut, a corner sees one", 1, object.told(0, 0, 1));
        Check.due("4: shut, the other corner sees none", 0, object.told(4, 3, 1));
        object.setEdge(true);
        object.setRules(8, 0);
        Check.due("4: round, a birth over the edge", 1, object.told(1, 3, 4));
        object.setEdge(false);
        Check.due("4: shut, none", 0, object.told(1, 3, 4));
    }

    private static void turningPlantsAndCuts() {
        for (int size = 0; size < 36; size++) {
            int w = 3 + size % 6;
            int h = 3 + size / 6;
            HedgeGliders object = new HedgeGliders();
            object.lay(w, h);
            int[][] corners = {{0, 0}, {w - 1, 0}, {0, h - 1}, {w - 1, h - 1}};
            for (int[] corner : corners) {
                String at = "5: " + corner[0] + ", " + corner[1] + " of " + w + " by " + h;
                Check.due(at, 1, object.turn(corner[0], corner[1]));
                Check.due(at + ", its age", 0, object.told(corner[0], corner[1], 2));
                Check.due(at + " cut", 0, object.turn(corner[0], corner[1]));
                Check.due(at + ", open", -1, object.told(corner[0], corner[1], 2));
            }
        }
    }

    private static void turningIsNoBirthAndNoDeath() {
        HedgeGliders object = new HedgeGliders();
        object.setRules(0, ALL);
        object.turn(7, 7);
        object.pass(2);
        object.turn(7, 7);
        object.pass(1);
        object.turn(7, 7);
        Check.due("5: no birth", 0, object.count(4));
        Check.due("5: no death", 0, object.count(5));
        Check.due("5: young again", 0, object.told(7, 7, 2));
    }

    private static void turningToFullAndToOpen() {
        HedgeGliders object = new HedgeGliders();
        for (int cell = 0; cell < 64; cell++) {
            Check.due("5: planted " + cell, cell + 1, object.turn(cell % 8, cell / 8));
        }
        Check.due("5: no lawn is left", 0, object.count(7));
        for (int cell = 0; cell < 64; cell++) {
            Check.due("5: cut " + cell, 63 - cell, object.turn(cell % 8, cell / 8));
        }
        Check.due("5: one lawn", 64, object.count(8));
    }

    private static void turningRefusesOtherCells() {
        for (boolean round : new boolean[] {false, true}) {
            HedgeGliders object = Gardens.full(round, 3, 7);
            Class<? extends Exception> index = IndexOutOfBoundsException.class;
            for (int far : FAR) {
                Check.refuses("5: x " + far, object, index, () -> object.turn(far, 0));
                Check.refuses("5: y " + far, object, index, () -> object.turn(0, far));
            }
            Check.refuses("5: x w", object, index, () -> object.turn(3, 6));
            Check.refuses("5: y h", object, index, () -> object.turn(2, 7));
            Check.refuses("5: x 7", object, index, () -> object.turn(7, 0));
            Check.refuses("5: both", object, index, () -> object.turn(-1, 7));
        }
    }

    /** All figures with all turns, in and just beyond all cells, with both edges. */
    private static void plantingAllFiguresInAllPlaces() {
        int[][] sizes = {{3, 3}, {3, 8}, {8, 3}, {4, 5}, {7, 6}, {8, 8}};
        for (int[] size : sizes) {
            for (int figure = -1; figure <= 4; figure++) {
                for (int turns = -1; turns <= 4; turns++) {
                    plantInAllPlaces(size[0], size[1], false, figure, turns);
                    plantInAllPlaces(size[0], size[1], true, figure, turns);
                }
            }
        }
    }

    private static void plantInAllPlaces(int w, int h, boolean round, int figure, int turns) {
        HedgeGliders object = new HedgeGliders();
        Model model = new Model();
        object.setEdge(round);
        model.setEdge(round);
        for (int place = 0; place < (w + 2) * (h + 2); place++) {
            int x = place % (w + 2) - 1;
            int y = place / (w + 2) - 1;
            object.lay(w, h);
            model.lay(w, h);
            String call = "6: " + w + " by " + h + (round ? " round" : " shut")
                + ", plant(" + figure + ", " + turns + ", " + x + ", " + y + ")";
            String due = Check.outcome(() -> model.plant(figure, turns, x, y));
            Check.due(call, due, Check.outcome(() -> object.plant(figure, turns, x, y)));
            Check.due(call + ", digest", model.digest(), object.digest());
        }
    }

    private static void plantingMakesOthersYoung() {
        HedgeGliders object = Gardens.full(true, 3, 3);
        object.setRules(0, ALL);
        object.pass(9);
        Check.due("6: no more than before", 9, object.plant(3, 0, 0, 0));
        String ages = "";
        for (int cell = 0; cell < 9; cell++) {
            ages += object.told(cell % 3, cell / 3, 2);
        }
        Check.due("6: only the figure's are young", "909000909", ages);
        Check.due("6: no births", 0, object.count(4));
        Check.due("6: no deaths", 0, object.count(5));
        object.plant(0, 0, 2, 2);
        Check.due("6: young over the edge", 0, object.told(0, 2, 2));
        Check.due("6: no more than all", 9, object.count(3));
    }

    private static void plantingTurnsAheadOfMoving() {
        HedgeGliders object = new HedgeGliders();
        object.lay(6, 5);
        Check.due("6: a row upright", 3, object.plant(1, 1, 3, 1));
        Check.due("6: it is in the middle of its three", "....../....#./....#./....#./......", Gardens.picture(object));
    }

    private static void plantingRefusesOtherFigures() {
        for (boolean round : new boolean[] {false, true}) {
            HedgeGliders object = new HedgeGliders();
            object.setEdge(round);
            for (int far : FAR) {
                Check.refuses("6: figure " + far, object, IndexOutOfBoundsException.class,
                    () -> object.plant(far, 0, 0, 0));
                Check.refuses("6: turns " + far, object, IndexOutOfBoundsException.class,
                    () -> object.plant(0, far, 0, 0));
            }
            Check.refuses("6: figure 4", object, IndexOutOfBoundsException.class, () -> object.plant(4, 0, 0, 0));
            Check.refuses("6: turns 4", object, IndexOutOfBoundsException.class, () -> object.plant(0, 4, 0, 0));
            Check.due("6: figure 3, turns 3", 5, object.plant(3, 3, 0, 0));
            Check.due("6: figure 0, turns 0", 7, object.plant(0, 0, 0, 0));
        }
    }

    private static void plantingRefusesOtherCells() {
        for (boolean round : new boolean[] {false, true}) {
            HedgeGliders object = new HedgeGliders();
            object.lay(4, 7);
            object.setEdge(round);
            for (int far : FAR) {
                Check.refuses("6: x " + far, object, IndexOutOfBoundsException.class, () -> object.plant(0, 0, far, 0));
                Check.refuses("6: y " + far, object, IndexOutOfBoundsException.class, () -> object.plant(0, 0, 0, far));
            }
            Check.refuses("6: x 4", object, IndexOutOfBoundsException.class, () -> object.plant(0, 0, 4, 0));
            Check.refuses("6: y 7", object, IndexOutOfBoundsException.class, () -> object.plant(0, 0, 0, 7));
            Check.refuses("6: x -1, though the figure is inside", object, IndexOutOfBoundsException.class,
                () -> object.plant(1, 1, -1, 0));
            Check.refuses("6: y -1, though the figure is inside", object, IndexOutOfBoundsException.class,
                () -> object.plant(1, 0, 0, -1));
        }
    }

    private static void plantingRefusesBeyondAShutEdge() {
        HedgeGliders object = new HedgeGliders();
        object.lay(5, 5);
        Class<? extends Exception> state = IllegalStateException.class;
        Check.refuses("6: a glider one too far right", object, state, () -> object.plant(0, 0, 3, 2));
        Check.refuses("6: a glider one too low", object, state, () -> object.plant(0, 0, 2, 3));
        Check.refuses("6: a row one too low", object, state, () -> object.plant(1, 0, 0, 4));
        Check.refuses("6: a row one too far right", object, state, () -> object.plant(1, 0, 3, 0));
        Check.refuses("6: a square in the corner", object, state, () -> object.plant(2, 0, 4, 4));
        Check.refuses("6: a square turned twice", object, state, () -> object.plant(2, 2, 3, 3));
        Check.due("6: a square at the last place", 4, object.plant(2, 0, 3, 3));
        Check.due("6: a row at the last place", 7, object.plant(1, 0, 2, 0));
        Check.due("6: a row, of which no cell is in the lowest line", 8, object.plant(1, 0, 2, 3));
        object.setEdge(true);
        Check.due("6: round nothing is too far", 12, object.plant(0, 0, 4, 4));
    }

    private static void passingTheFewestAndTheMostYears() {
        HedgeGliders object = new HedgeGliders();
        object.setRules(1, 0);
        Check.due("7: one year", 64, object.pass(1));
        Check.due("7: its number", 1, object.count(0));
        Check.due("7: fifty years", 64, object.pass(50));
        Check.due("7: their number", 51, object.count(0));
        Check.due("7: births", 26 * 64, object.count(4));
        Check.due("7: deaths", 25 * 64, object.count(5));
        Check.due("7: forty-nine years", 0, object.pass(49));
        Check.due("7: the number then", 100, object.count(0));
    }

    private static void passingIsYearByYear() {
        for (boolean round : new boolean[] {false, true}) {
            HedgeGliders at = Gardens.of(round, "........", ".##.....", "#..#.#..", "...##...", "........", "..#.....");
            HedgeGliders by = Gardens.of(round, "........", ".##.....", "#..#.#..", "...##...", "........", "..#.....");
            int last = 0;
            for (int year = 0; year < 50; year++) {
                last = by.pass(1);
            }
            Check.due("7: fifty at once", last, at.pass(50));
            Check.due("7: the same then", by.digest(), at.digest());
            Check.due("7: the hedges there are", at.count(3), last);
        }
    }

    private static void passingInFullAndOpenGardens() {
        HedgeGliders full = Gardens.full(true, 8, 8);
        Check.due("7: all of a full one that goes round die", 0, full.pass(1));
        Check.due("7: deaths of all", 64, full.count(5));
        HedgeGliders shut = Gardens.full(false, 8, 8);
        Check.due("7: those at a shut edge stay", 28, shut.pass(1));
        Check.due("7: deaths of those inside", 36, shut.count(5));
        HedgeGliders open = new HedgeGliders();
        Check.due("7: nothing comes of nothing", 0, open.pass(50));
        Check.due("7: no births", 0, open.count(4));
        Check.due("7: no deaths", 0, open.count(5));
    }

    private static void passingRefusesOtherYears() {
        HedgeGliders object = Gardens.full(false, 4, 4);
        for (int years : new int[] {0, 51, 52, 257, -50}) {
            Check.refuses("7: years " + years, object, IllegalArgumentException.class, () -> object.pass(years));
        }
        for (int years : FAR) {
            Check.refuses("7: years " + years, object, IllegalArgumentException.class, () -> object.pass(years));
        }
        Check.due("7: the year is as it was", 0, object.count(0));
    }
}
