/** Promises 8 to 10: what there is. */
final class ThereTest {
    public static void main(String[] args) {
        telling();
        tellingRefused();
        counting();
        countingRound();
        ways();
        waysRefused();
        Check.end();
    }

    private static void telling() {
        HedgeGliders object = Gardens.of(false, "##..", "....", "####", "...#");
        int[] corner = {1, 1, 0, 0, 1};
        int[] open = {0, 1, -1, 6, 0};
        int[] lower = {0, 3, -1, 3, 1};
        for (int what = 0; what < 5; what++) {
            Check.due("8: told(0, 0, " + what + ")", corner[what], object.told(0, 0, what));
            Check.due("8: told(2, 0, " + what + ")", open[what], object.told(2, 0, what));
            Check.due("8: told(1, 3, " + what + ")", lower[what], object.told(1, 3, what));
        }
        Check.due("8: itself does not count", 3, object.told(2, 2, 1));
        object.pass(1);
        Check.due("8: its age", 1, object.told(0, 0, 2));
        Check.due("8: a birth's age", 0, object.told(1, 3, 2));
        HedgeGliders round = Gardens.of(true, "...", "...", "...");
        for (int cell = 0; cell < 9; cell++) {
            round.turn(cell % 3, cell / 3);
        }
        Check.due("8: eight around a corner", 8, round.told(0, 0, 1));
        round.setEdge(false);
        Check.due("8: three around a shut corner", 3, round.told(0, 0, 1));
        Check.due("8: five at a shut side", 5, round.told(1, 2, 1));
        Check.due("8: stays go on one by one", 1, round.told(1, 2, 4));
        Check.due("8: eight are too many", 0, round.told(1, 1, 4));
    }

    private static void tellingRefused() {
        HedgeGliders object = new HedgeGliders();
        object.setEdge(true);
        object.lay(4, 6);
        for (int far : new int[] {Integer.MIN_VALUE, -1, 6, Integer.MAX_VALUE}) {
            Check.refuses("8: x " + far, object, IndexOutOfBoundsException.class, () -> object.told(far, 0, 0));
            Check.refuses("8: y " + far, object, IndexOutOfBoundsException.class, () -> object.told(0, far, 0));
            Check.refuses("8: what " + far, object, IndexOutOfBoundsException.class, () -> object.told(0, 0, far));
        }
        Check.refuses("8: x 4", object, IndexOutOfBoundsException.class, () -> object.told(4, 0, 0));
        Check.refuses("8: what 5", object, IndexOutOfBoundsException.class, () -> object.told(0, 0, 5));
        for (int far : new int[] {Integer.MIN_VALUE, -1, 11, Integer.MAX_VALUE}) {
            Check.refuses("9: what " + far, object, IndexOutOfBoundsException.class, () -> object.count(far));
        }
    }

    private static void counting() {
        HedgeGliders object = Gardens.of(false, "..#.....", "..#.....", "###..#..", ".....#..", "######..");
        int[] due = {0, 8, 5, 13, 0, 0, 0, 2, 23, 1, 0};
        for (int what = 0; what < due.length; what++) {
            Check.due("9: count(" + what + ")", due[what], object.count(what));
        }
        object.setRules(Gardens.numbers(5), 511);
        Check.due("9: one cell with five around makes its lawn restless", 0, object.count(9));
        object.setRules(0, 511);
        Check.due("9: all still", 2, object.count(9));
        object.setRules(511, 511);
        Check.due("9: none still", 0, object.count(9));
        object.pass(1);
        Check.due("9: no lawns", 0, object.count(7));
        Check.due("9: no greatest", 0, object.count(8));
        Check.due("9: no still", 0, object.count(9));
        Check.due("9: births", 27, object.count(4));
        Check.due("9: oldest", 1, object.count(10));
        HedgeGliders chess = Gardens.of(false, "#.#.#.#.", ".#.#.#.#", "#.#.#.#.", ".#.#.#.#");
        Check.due("9: corners do not join", 16, chess.count(7));
        Check.due("9: one cell each", 1, chess.count(8));
    }

    private static void countingRound() {
        HedgeGliders object = Gardens.of(true, ".#.#.", "##.##", ".....", "##.##");
        Check.due("9: round edge", 1, object.count(6));
        Check.due("9: round lawns", 2, object.count(7));
        Check.due("9: greatest round", 8, object.count(8));
        Check.due("8: lawn round", 2, object.told(0, 0, 3));
        object.setEdge(false);
        Check.due("9: shut lawns", 3, object.count(7));
        Check.due("9: greatest shut", 8, object.count(8));
        Check.due("8: lawn shut", 1, object.told(0, 0, 3));
    }

    private static void ways() {
        HedgeGliders object = Gardens.of(false, "...#....", ".#.#.##.", ".#...#..", ".#####.#", "........");
        Check.due("10: to itself", 0, object.way(0, 0, 0, 0));
        Check.due("10: beside", 1, object.way(0, 0, 0, 1));
        Check.due("10: around the corner", 2, object.way(2, 2, 4, 2));
        Check.due("10: around a hedge", 8, object.way(0, 0, 4, 0));
        Check.due("10: along the side", 7, object.way(0, 4, 7, 4));
        Check.due("10: into a gap", 7, object.way(0, 4, 6, 3));
        Check.due("10: from a hedge", -1, object.way(3, 0, 0, 0));
        Check.due("10: to a hedge", -1, object.way(0, 0, 3, 0));
        Check.due("10: a hedge to itself", -1, object.way(3, 0, 3, 0));
        HedgeGliders parted = Gardens.of(false, "..#..", "..#..", "..#..");
        Check.due("10: no way", -1, parted.way(0, 0, 4, 0));
        parted.setEdge(true);
        Check.due("10: round", 1, parted.way(0, 0, 4, 0));
        Check.due("10: round in both", 2, parted.way(0, 0, 4, 2));
        Check.due("10: no step over corners", -1, Gardens.of(false, ".#.", "#..", "...").way(0, 0, 1, 1));
        longestWay();
    }

    private static void longestWay() {
        HedgeGliders snake = Gardens.of(false,
            "........", "#######.", "........", ".#######", "........", "#######.", "........", ".#######");
        Check.due("10: a long way", 35, snake.way(0, 0, 0, 7));
        Check.due("10: and back", 35, snake.way(0, 7, 0, 0));
        HedgeGliders open = new HedgeGliders();
        Check.due("10: over an open garden", 14, open.way(7, 0, 0, 7));
        open.setEdge(true);
        Check.due("10: over an open garden that goes round", 8, open.way(0, 0, 4, 4));
        Check.due("8: the whole is one lawn", 36, snake.told(0, 0, 3));
    }

    private static void waysRefused() {
        HedgeGliders object = new HedgeGliders();
        object.lay(4, 6);
        object.turn(0, 0);
        for (int far : new int[] {Integer.MIN_VALUE, -1, 6, Integer.MAX_VALUE}) {
            Check.refuses("10: x " + far, object, IndexOutOfBoundsException.class, () -> object.way(far, 0, 0, 0));
            Check.refuses("10: y " + far, object, IndexOutOfBoundsException.class, () -> object.way(0, far, 0, 0));
            Check.refuses("10: tx " + far, object, IndexOutOfBoundsException.class, () -> object.way(0, 0, far, 0));
            Check.refuses("10: ty " + far, object, IndexOutOfBoundsException.class, () -> object.way(0, 0, 0, far));
        }
        Check.refuses("10: tx 4", object, IndexOutOfBoundsException.class, () -> object.way(0, 0, 4, 0));
    }
}
