/** The boundary cases of "Terms": one method for each sentence that names one. */
final class TermsBoundaryTest {
    private static final int ALL = 511;

    public static void main(String[] args) {
        sidesAreThreeToEight();
        cellsEndAtTheSides();
        cellsAreOpenAtFirst();
        edgeIsShutAtFirst();
        edgeGoesRoundAtEachSide();
        nothingIsBeyondAShutEdge();
        neighboursAreEightOrFewerAtAShutEdge();
        besideIsOverASideOnly();
        birthsAreThreeAtFirst();
        staysAreOneToFiveAtFirst();
        rulesReachFromNoneToEight();
        rulesOfNoneAndOfAll();
        allCellsAreLookedAtAtOnce();
        oneThatStaysIsAYearOlder();
        oneThatDiesIsOpen();
        oneThatIsBornHasTheAgeNone();
        theYearIsOneGreater();
        lawnsGoRoundTheEdge();
        lawnsDoNotJoinOverCorners();
        aStillLawnHasNoBirth();
        gardensAreTheSameWhateverTheirAges();
        aMovedGardenIsTheSameWhateverItsAges();
        theFirstNamedExceptionOfPlant();
        theFirstNamedExceptionOfForesee();
        refusedCallsChangeNothing();
        anObjectIsUsedForFiveHundredAndTwelveCalls();
        Check.end();
    }

    private static void sidesAreThreeToEight() {
        HedgeGliders first = new HedgeGliders();
        Check.due("Terms: w at first", 8, first.count(1));
        Check.due("Terms: h at first", 8, first.count(2));
        for (int w = 3; w <= 8; w++) {
            for (int h = 3; h <= 8; h++) {
                HedgeGliders object = Gardens.full(false, w, h);
                Check.due("Terms: all cells of " + w + " by " + h, w * h, object.count(3));
                Check.due("Terms: w of " + w + " by " + h, w, object.count(1));
                Check.due("Terms: h of " + w + " by " + h, h, object.count(2));
            }
        }
    }

    private static void cellsEndAtTheSides() {
        for (int size = 0; size < 36; size++) {
            int w = 3 + size % 6;
            int h = 3 + size / 6;
            HedgeGliders object = new HedgeGliders();
            object.lay(w, h);
            object.setEdge(size % 2 == 0);
            String at = "Terms: " + w + " by " + h + ", ";
            Check.due(at + "first cell", 0, object.told(0, 0, 0));
            Check.due(at + "last cell", 0, object.told(w - 1, h - 1, 0));
            Check.refuses(at + "x -1", object, IndexOutOfBoundsException.class, () -> object.told(-1, 0, 0));
            Check.refuses(at + "y -1", object, IndexOutOfBoundsException.class, () -> object.told(0, -1, 0));
            Check.refuses(at + "x w", object, IndexOutOfBoundsException.class, () -> object.told(w, h - 1, 0));
            Check.refuses(at + "y h", object, IndexOutOfBoundsException.class, () -> object.told(w - 1, h, 0));
        }
    }

    private static void cellsAreOpenAtFirst() {
        HedgeGliders object = new HedgeGliders();
        for (int cell = 0; cell < 64; cell++) {
            Check.due("Terms: hedge in cell " + cell, 0, object.told(cell % 8, cell / 8, 0));
            Check.due("Terms: age in cell " + cell, -1, object.told(cell % 8, cell / 8, 2));
        }
    }

    private static void edgeIsShutAtFirst() {
        HedgeGliders object = new HedgeGliders();
        Check.due("Terms: edge at first", 0, object.count(6));
        object.turn(0, 0);
        Check.due("Terms: at first nothing is left of x 0", 0, object.told(7, 0, 1));
        Check.due("Terms: at first nothing is above y 0", 0, object.told(0, 7, 1));
    }

    private static void edgeGoesRoundAtEachSide() {
        String[] rows = {".....", ".....", ".....", "....."};
        int[][] sides = {{0, 1, 4, 1}, {4, 1, 0, 1}, {2, 0, 2, 3}, {2, 3, 2, 0}, {0, 0, 4, 3}, {4, 0, 0, 3}};
        for (int[] side : sides) {
            HedgeGliders object = Gardens.of(true, rows);
            object.turn(side[0], side[1]);
            String at = "Terms: from " + side[0] + ", " + side[1] + " over the edge";
            Check.due(at, 1, object.told(side[2], side[3], 1));
            int steps = (side[0] == side[2] ? 0 : 1) + (side[1] == side[3] ? 0 : 1);
            object.turn(side[0], side[1]);
            Check.due(at + ", steps", steps, object.way(side[0], side[1], side[2], side[3]));
        }
    }

    private static void nothingIsBeyondAShutEdge() {
        HedgeGliders object = Gardens.full(false, 4, 5);
        object.turn(0, 1);
        object.turn(3, 1);
        Check.due("Terms: shut, a side has five around", 5, object.told(0, 1, 1));
        Check.due("Terms: shut, a side's way", -1, object.way(0, 1, 3, 1));
        Check.due("Terms: shut, a side's lawn", 1, object.told(0, 1, 3));
        HedgeGliders upright = Gardens.full(false, 4, 5);
        upright.turn(1, 0);
        upright.turn(1, 4);
        Check.due("Terms: shut, above there are five around", 5, upright.told(1, 0, 1));
        Check.due("Terms: shut, a way above", -1, upright.way(1, 0, 1, 4));
        Check.due("Terms: shut, a lawn above", 1, upright.told(1, 4, 3));
        HedgeGliders born = Gardens.ruled(false, 2, ALL, "#.../..../..../....");
        Check.due("Terms: shut, the births around a corner", 4, born.pass(1));
        HedgeGliders round = Gardens.ruled(true, 2, ALL, "#.../..../..../....");
        Check.due("Terms: round, they are more", 9, round.pass(1));
    }

    /** Each hedge in a corner or in the middle, seen from all cells, in all sizes. */
    private static void neighboursAreEightOrFewerAtAShutEdge() {
        for (int size = 0; size < 72; size++) {
            int w = 3 + size % 6;
            int h = 3 + size / 6 % 6;
            boolean round = size >= 36;
            HedgeGliders full = Gardens.full(round, w, h);
            String at = "Terms: " + w + " by " + h + (round ? " round" : " shut");
            for (int cell = 0; cell < w * h; cell++) {
                int x = cell % w;
                int y = cell / w;
                int wide = round || x > 0 && x < w - 1 ? 3 : 2;
                int high = round || y > 0 && y < h - 1 ? 3 : 2;
                Check.due(at + ", around " + x + ", " + y, wide * high - 1, full.told(x, y, 1));
            }
            oneHedgeSeen(at, round, w, h, 0, 0);
            oneHedgeSeen(at, round, w, h, w - 1, 0);
            oneHedgeSeen(at, round, w, h, 0, h - 1);
            oneHedgeSeen(at, round, w, h, w - 1, h - 1);
            oneHedgeSeen(at, round, w, h, 1, 1);
        }
    }

    private static void oneHedgeSeen(String at, boolean round, int w, int h, int x, int y) {
        HedgeGliders object = new HedgeGliders();
        object.lay(w, h);
        object.setEdge(round);
        object.turn(x, y);
        for (int cell = 0; cell < w * h; cell++) {
            int cx = cell % w;
            int cy = cell / w;
            boolean sees = isNear(x, cx, w, round) && isNear(y, cy, h, round) && (x != cx || y != cy);
            Check.due(at + ", " + cx + ", " + cy + " beside " + x + ", " + y, sees ? 1 : 0, object.told(cx, cy, 1));
        }
    }

    private static boolean isNear(int a, int b, int side, boolean round) {
        int apart = Math.abs(a - b);
        return apart <= 1 || round && apart == side - 1;
    }

    private static void besideIsOverASideOnly() {
        for (boolean round : new boolean[] {false, true}) {
            HedgeGliders object = Gardens.of(round, "#####", "##.##", "#.#.#", "##.##", "#####");
            Check.due("Terms: corners do not join", 4, object.count(7));
            Check.due("Terms: no step over a corner", -1, object.way(2, 1, 3, 2));
            object.turn(2, 2);
            Check.due("Terms: sides join", 1, object.count(7));
            Check.due("Terms: steps over sides", 2, object.way(2, 1, 3, 2));
        }
    }

    private static void birthsAreThreeAtFirst() {
        for (int around = 0; around <= 8; around++) {
            HedgeGliders object = Gardens.ringed(around);
            Check.due("Terms: at first a birth by " + around, around == 3 ? 1 : 0, object.told(1, 1, 4));
            object.pass(1);
            Check.due("Terms: at first born by " + around, around == 3 ? 1 : 0, object.told(1, 1, 0));
        }
    }

    private static void staysAreOneToFiveAtFirst() {
        for (int around = 0; around <= 8; around++) {
            HedgeGliders object = Gardens.ringed(around);
            object.turn(1, 1);
            int due = around >= 1 && around <= 5 ? 1 : 0;
            Check.due("Terms: at first a stay by " + around, due, object.told(1, 1, 4));
            object.pass(1);
            Check.due("Terms: at first stayed by " + around, due, object.told(1, 1, 0));
        }
    }

    private static void rulesReachFromNoneToEight() {
        int[][] due = {{0, 1}, {8, 256}};
        for (int[] pair : due) {
            HedgeGliders birth = Gardens.ringed(pair[0]);
            birth.setRules(pair[1], 0);
            Check.due("Terms: a birth by " + pair[0], 1, birth.told(1, 1, 4));
            birth.setRules(ALL - pair[1], ALL);
            Check.due("Terms: no birth by " + pair[0], 0, birth.told(1, 1, 4));
            HedgeGliders stay = Gardens.ringed(pair[0]);
            stay.turn(1, 1);
            stay.setRules(0, pair[1]);
            Check.due("Terms: a stay by " + pair[0], 1, stay.told(1, 1, 4));
            stay.setRules(ALL, ALL - pair[1]);
            Check.due("Terms: no stay by " + pair[0], 0, stay.told(1, 1, 4));
        }
    }

    private static void rulesOfNoneAndOfAll() {
        HedgeGliders object = Gardens.of(false, "##.#", ".#..", "....");
        object.setRules(ALL, ALL);
        Check.due("Terms: by all rules each cell has one", 12, object.pass(1));
        Check.due("Terms: and keeps it", 12, object.pass(1));
        object.setRules(0, 0);
        Check.due("Terms: by no rules none is left", 0, object.pass(1));
        Check.due("Terms: and none comes", 0, object.pass(1));
        Check.due("Terms: births by all rules", 8, object.count(4));
        Check.due("Terms: deaths by no rules", 12, object.count(5));
    }

    private static void allCellsAreLookedAtAtOnce() {
        HedgeGliders object = Gardens.of(false, ".......", "...#...", ".......");
        object.setRules(2, 0);
        object.pass(1);
        Check.due("Terms: the ring of one", "..###../..#.#../..###..", Gardens.picture(object));
        HedgeGliders round = Gardens.of(true, "#......", ".......", ".......", ".......");
        round.setRules(2, 0);
        round.pass(1);
        Check.due("Terms: the ring of one in a corner", ".#....#/##....#/......./##....#", Gardens.picture(round));
    }

    private static void oneThatStaysIsAYearOlder() {
        HedgeGliders object = Gardens.full(false, 3, 3);
        object.setRules(0, ALL);
        for (int year = 1; year <= 3; year++) {
            object.pass(1);
            Check.due("Terms: an age behind " + year, year, object.told(2, 2, 2));
        }
        object.pass(50);
        Check.due("Terms: an age behind 53", 53, object.told(0, 0, 2));
    }

    private static void oneThatDiesIsOpen() {
        HedgeGliders object = Gardens.of(false, "...", ".#.", "...");
        object.pass(1);
        Check.due("Terms: one without neighbours dies", 0, object.told(1, 1, 0));
        Check.due("Terms: where it was it is open", -1, object.told(1, 1, 2));
        Check.due("Terms: it is the lawn's", 9, object.told(1, 1, 3));
        Check.due("Terms: one death", 1, object.count(5));
    }

    private static void oneThatIsBornHasTheAgeNone() {
        HedgeGliders object = Gardens.of(false, "...", ".#.", "...");
        object.setRules(0, ALL);
        object.pass(5);
        object.setRules(1, 0);
        object.pass(1);
        Check.due("Terms: it died", 0, object.count(3));
        object.pass(1);
        Check.due("Terms: all are born", 9, object.count(4));
        Check.due("Terms: one where an older one was", 0, object.told(1, 1, 2));
        Check.due("Terms: one where none was", 0, object.told(0, 0, 2));
    }

    private static void theYearIsOneGreater() {
        HedgeGliders object = new HedgeGliders();
        Check.due("Terms: time is told from 0", 0, object.count(0));
        object.pass(1);
        Check.due("Terms: also in an open garden", 1, object.count(0));
        object.pass(50);
        Check.due("Terms: by each year", 51, object.count(0));
    }

    private static void lawnsGoRoundTheEdge() {
        HedgeGliders object = Gardens.of(true, ".##.", "####", ".##.");
        Check.due("Terms: four corners are one lawn", 1, object.count(7));
        Check.due("Terms: its cells", 4, object.told(3, 2, 3));
        object.setEdge(false);
        Check.due("Terms: shut they are four", 4, object.count(7));
        Check.due("Terms: of one cell each", 1, object.told(3, 2, 3));
        HedgeGliders wide = Gardens.of(true, ".######.", "########", "########");
        Check.due("Terms: round at the sides", 2, wide.told(0, 0, 3));
        HedgeGliders high = Gardens.of(true, "#.#", "###", "###", "###", "###", "###", "###", "#.#");
        Check.due("Terms: round above", 2, high.told(1, 7, 3));
    }

    private static void lawnsDoNotJoinOverCorners() {
        HedgeGliders object = Gardens.of(true, "####", "#.##", "##.#", "####");
        Check.due("Terms: corners make two lawns", 2, object.count(7));
        HedgeGliders corner = Gardens.of(true, ".###", "####", "####", "###.");
        Check.due("Terms: corners over the edge make two", 2, corner.count(7));
    }

    private static void aStillLawnHasNoBirth() {
        HedgeGliders object = Gardens.of(false, "..#.....", "..#.....", "###.....", "........");
        object.setRules(8, 0);
        Check.due("Terms: one birth beyond the hedges", 1, object.told(3, 1, 4));
        Check.due("Terms: none where five are around", 0, object.told(1, 1, 4));
        Check.due("Terms: so one is still", 1, object.count(9));
        object.setRules(32, 0);
        Check.due("Terms: the other one is", 1, object.count(9));
        object.setRules(8 | 32, ALL);
        Check.due("Terms: none is", 0, object.count(9));
        object.setRules(256, 0);
        Check.due("Terms: both are, though all hedges die", 2, object.count(9));
        HedgeGliders open = new HedgeGliders();
        Check.due("Terms: an open garden is still", 1, open.count(9));
        open.setRules(1, 0);
        Check.due("Terms: but not with births by none around", 0, open.count(9));
        Check.due("Terms: a full one has no lawn", 0, Gardens.full(true, 3, 3).count(9));
    }

    private static void gardensAreTheSameWhateverTheirAges() {
        HedgeGliders object = Gardens.full(true, 3, 4);
        object.setRules(0, ALL);
        Check.due("Terms: older hedges are the same garden", 0, object.period(0));
        Check.due("Terms: behind a year", 1, object.period(1));
    }

    private static void aMovedGardenIsTheSameWhateverItsAges() {
        HedgeGliders object = new HedgeGliders();
        Gardens.life(object);
        object.setEdge(true);
        object.plant(0, 0, 0, 0);
        object.pass(3);
        object.turn(1, 1);
        object.turn(1, 1);
        Check.due("Terms: a glider of several ages", 4, object.glides(0));
    }

    private static void theFirstNamedExceptionOfPlant() {
        HedgeGliders object = new HedgeGliders();
        Check.refuses("Terms: figure 4 beyond the edge", object, IndexOutOfBoundsException.class,
            () -> object.plant(4, 0, 7, 7));
        Check.refuses("Terms: turns 4 beyond the edge", object, IndexOutOfBoundsException.class,
            () -> object.plant(0, 4, 7, 7));
        Check.refuses("Terms: no cell, beyond the edge", object, IndexOutOfBoundsException.class,
            () -> object.plant(0, 0, 8, 7));
        Check.refuses("Terms: beyond the edge alone", object, IllegalStateException.class,
            () -> object.plant(0, 0, 7, 7));
    }

    private static void theFirstNamedExceptionOfForesee() {
        HedgeGliders object = new HedgeGliders();
        for (int years : new int[] {0, 51}) {
            for (int what : new int[] {-1, 0, 2, 6, 11}) {
                Check.refuses("Terms: foresee(" + years + ", " + what + ")", object, IllegalArgumentException.class,
                    () -> object.foresee(years, what));
            }
        }
        Check.refuses("Terms: foresee(1, 6)", object, IndexOutOfBoundsException.class, () -> object.foresee(1, 6));
    }

    private static void refusedCallsChangeNothing() {
        HedgeGliders object = Gardens.of(true, "#..#.", ".##..", "...#.", "#.#..");
        object.setRules(12, 28);
        object.pass(3);
        object.setEdge(false);
        Class<? extends Exception> argument = IllegalArgumentException.class;
        Class<? extends Exception> index = IndexOutOfBoundsException.class;
        Check.refuses("Terms: lay(5, 2)", object, argument, () -> object.lay(5, 2));
        Check.refuses("Terms: lay(9, 4)", object, argument, () -> object.lay(9, 4));
        Check.refuses("Terms: setRules(8, 512)", object, argument, () -> object.setRules(8, 512));
        Check.refuses("Terms: setRules(-1, 62)", object, argument, () -> object.setRules(-1, 62));
        Check.refuses("Terms: turn(5, 0)", object, index, () -> object.turn(5, 0));
        Check.refuses("Terms: plant(3, 0, 0, 4)", object, index, () -> object.plant(3, 0, 0, 4));
        Check.refuses("Terms: plant(3, 0, 3, 0)", object, IllegalStateException.class, () -> object.plant(3, 0, 3, 0));
        Check.refuses("Terms: pass(51)", object, argument, () -> object.pass(51));
        Check.refuses("Terms: told(0, 4, 0)", object, index, () -> object.told(0, 4, 0));
        Check.refuses("Terms: count(11)", object, index, () -> object.count(11));
        Check.refuses("Terms: way(0, 0, 0, 4)", object, index, () -> object.way(0, 0, 0, 4));
        Check.refuses("Terms: period(2)", object, index, () -> object.period(2));
        Check.refuses("Terms: glides(3)", object, index, () -> object.glides(3));
        Check.refuses("Terms: foresee(51, 3)", object, argument, () -> object.foresee(51, 3));
        Check.refuses("Terms: foresee(50, 2)", object, index, () -> object.foresee(50, 2));
        Check.refuses("Terms: advise(3)", object, argument, () -> object.advise(3));
    }

    private static void anObjectIsUsedForFiveHundredAndTwelveCalls() {
        HedgeGliders object = new HedgeGliders();
        object.setRules(1, 0);
        for (int call = 2; call <= 507; call++) {
            object.pass(50);
        }
        Check.due("Terms: call 508, the year", 506 * 50, object.count(0));
        Check.due("Terms: call 509, births", 506 * 25 * 64, object.count(4));
        Check.due("Terms: call 510, deaths", 506 * 25 * 64, object.count(5));
        Check.due("Terms: call 511", 64, object.pass(1));
        Check.due("Terms: call 512", 506 * 25 * 64 + 64, object.count(4));
        HedgeGliders old = Gardens.full(true, 3, 3);
        old.setRules(0, ALL);
        for (int call = 13; call <= 509; call++) {
            old.pass(50);
        }
        Check.due("Terms: call 510, the oldest", 497 * 50, old.count(10));
        Check.due("Terms: call 511, the mean age", 497.0 * 50, old.mean());
        Check.due("Terms: call 512, an age", 497 * 50, old.told(1, 1, 2));
    }
}
