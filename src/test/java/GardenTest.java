/** Promises 1 to 7: what is done in the garden. */
final class GardenTest {
    public static void main(String[] args) {
        newObject();
        laying();
        rules();
        edge();
        turning();
        planting();
        plantingOverTheEdge();
        plantingRefused();
        passing();
        Check.end();
    }

    private static void newObject() {
        HedgeGliders object = new HedgeGliders();
        int[] due = {0, 8, 8, 0, 0, 0, 0, 1, 64, 1, -1};
        for (int what = 0; what < due.length; what++) {
            Check.due("1: count(" + what + ")", due[what], object.count(what));
        }
        Check.due("1: rules", 512 * 8 + 62, object.setRules(8, 62));
        Check.due("1: edge", 0, object.setEdge(false) ? 1 : 0);
        Check.due("1: mean", 0.0, object.mean());
    }

    private static void laying() {
        HedgeGliders object = Gardens.of(true, "###.", "....", "....", "....");
        Gardens.life(object);
        object.pass(2);
        int births = object.count(4);
        int deaths = object.count(5);
        Check.due("2: lay answers the hedges there were", object.count(3), object.lay(5, 3));
        Check.due("2: laid is open", "...../...../.....", Gardens.picture(object));
        Check.due("2: year stays", 2, object.count(0));
        Check.due("2: births stay", births, object.count(4));
        Check.due("2: no deaths", deaths, object.count(5));
        Check.due("2: edge stays", 1, object.count(6));
        Check.due("2: an open garden had none", 0, object.lay(8, 8));
        Check.due("2: rules stay", 512 * 8 + 12, object.setRules(0, 0));
        for (int side = 3; side <= 8; side++) {
            object.lay(side, 11 - side);
            Check.due("2: w", side, object.count(1));
            Check.due("2: h", 11 - side, object.count(2));
        }
        for (int side : new int[] {Integer.MIN_VALUE, -1, 0, 2, 9, Integer.MAX_VALUE}) {
            Check.refuses("2: lay(" + side + ", 5)", object, IllegalArgumentException.class, () -> object.lay(side, 5));
            Check.refuses("2: lay(5, " + side + ")", object, IllegalArgumentException.class, () -> object.lay(5, side));
        }
        object.turn(7, 2);
        object.pass(1);
        object.lay(8, 8);
        object.turn(7, 2);
        Check.due("2: no age is left behind", 0, object.told(7, 2, 2));
    }

    private static void rules() {
        HedgeGliders object = new HedgeGliders();
        Check.due("3: the first", 512 * 8 + 62, object.setRules(511, 0));
        Check.due("3: greatest births", 512 * 511, object.setRules(0, 511));
        Check.due("3: greatest stays", 511, object.setRules(5, 7));
        Check.due("3: others", 512 * 5 + 7, object.setRules(5, 7));
        for (int bits : new int[] {Integer.MIN_VALUE, -1, 512, Integer.MAX_VALUE}) {
            Check.refuses("3: births " + bits, object, IllegalArgumentException.class, () -> object.setRules(bits, 5));
            Check.refuses("3: stays " + bits, object, IllegalArgumentException.class, () -> object.setRules(5, bits));
        }
        eachNumberOfRules();
    }

    private static void eachNumberOfRules() {
        for (int around = 0; around <= 8; around++) {
            for (int bit = 0; bit <= 8; bit++) {
                HedgeGliders object = Gardens.ringed(around);
                object.setRules(1 << bit, 0);
                Check.due("3: birth by " + around + " in " + bit, around == bit ? 1 : 0, object.told(1, 1, 4));
                object.turn(1, 1);
                object.setRules(0, 1 << bit);
                Check.due("3: stay by " + around + " in " + bit, around == bit ? 1 : 0, object.told(1, 1, 4));
                object.pass(1);
                Check.due("3: stayed by " + around + " in " + bit, around == bit ? 1 : 0, object.told(1, 1, 0));
            }
        }
    }

    private static void edge() {
        HedgeGliders object = new HedgeGliders();
        Check.due("4: shut at first", 0, object.setEdge(true) ? 1 : 0);
        Check.due("4: goes round", 1, object.count(6));
        Check.due("4: went round", 1, object.setEdge(true) ? 1 : 0);
        Check.due("4: went round still", 1, object.setEdge(false) ? 1 : 0);
        Check.due("4: shut", 0, object.setEdge(false) ? 1 : 0);
        HedgeGliders small = Gardens.of(true, "#....", ".....", ".....", ".....");
        Check.due("4: over the corner", 1, small.told(4, 3, 1));
        Check.due("4: to the left", 1, small.told(4, 0, 1));
        Check.due("4: upwards", 1, small.told(0, 3, 1));
        small.setEdge(false);
        Check.due("4: shut over the corner", 0, small.told(4, 3, 1));
        Check.due("4: shut to the left", 0, small.told(4, 0, 1));
        Check.due("4: shut upwards", 0, small.told(0, 3, 1));
    }

    private static void turning() {
        HedgeGliders object = new HedgeGliders();
        object.lay(5, 3);
        Check.due("5: planted", 1, object.turn(4, 2));
        Check.due("5: age", 0, object.told(4, 2, 2));
        Check.due("5: planted too", 2, object.turn(0, 1));
        Check.due("5: cut", 1, object.turn(4, 2));
        Check.due("5: cut is open", -1, object.told(4, 2, 2));
        Check.due("5: no birth", 0, object.count(4));
        Check.due("5: no death", 0, object.count(5));
        object.setRules(0, 511);
        object.pass(3);
        Check.due("5: older", 3, object.told(0, 1, 2));
        object.turn(0, 1);
        object.turn(0, 1);
        Check.due("5: planted again", 0, object.told(0, 1, 2));
        object.setEdge(true);
        for (int far : new int[] {Integer.MIN_VALUE, -1, 5, 64, Integer.MAX_VALUE}) {
            Check.refuses("5: x " + far, object, IndexOutOfBoundsException.class, () -> object.turn(far, 1));
        }
        for (int far : new int[] {Integer.MIN_VALUE, -1, 3, 64, Integer.MAX_VALUE}) {
            Check.refuses("5: y " + far, object, IndexOutOfBoundsException.class, () -> object.turn(1, far));
        }
    }

    private static void planting() {
        String[][] due = {
            {".#./..#/###", "#../#.#/##.", "###/#../.#.", ".##/#.#/..#"},
            {".../###/...", ".#./.#./.#.", ".../###/...", ".#./.#./.#."},
            {"##./##./...", ".##/.##/...", ".../.##/.##", ".../##./##."},
            {".#./###/.#.", ".#./###/.#.", ".#./###/.#.", ".#./###/.#."},
        };
        for (int figure = 0; figure < 4; figure++) {
            for (int turns = 0; turns < 4; turns++) {
                HedgeGliders object = new HedgeGliders();
                object.lay(3, 3);
                String call = "6: plant(" + figure + ", " + turns + ", 0, 0)";
                int cells = due[figure][turns].replace(".", "").replace("/", "").length();
                Check.due(call, cells, object.plant(figure, turns, 0, 0));
                Check.due(call + " makes", due[figure][turns], Gardens.picture(object));
            }
        }
        HedgeGliders object = new HedgeGliders();
        object.lay(6, 5);
        object.plant(1, 0, 3, 2);
        Check.due("6: moved", "....../....../....../...###/......", Gardens.picture(object));
        object.setRules(0, 511);
        object.pass(4);
        Check.due("6: over others", 5, object.plant(1, 1, 3, 2));
        Check.due("6: also the one there is young", 0, object.told(4, 3, 2));
        Check.due("6: the other is not", 4, object.told(3, 3, 2));
        Check.due("6: no births", 0, object.count(4));
    }

    private static void plantingOverTheEdge() {
        HedgeGliders object = new HedgeGliders();
        object.lay(5, 4);
        object.setEdge(true);
        Check.due("6: round", 5, object.plant(0, 0, 4, 3));
        Check.due("6: comes in there", ".#.../##..#/...../#....", Gardens.picture(object));
        HedgeGliders small = new HedgeGliders();
        small.lay(3, 3);
        small.setEdge(true);
        small.plant(2, 2, 2, 2);
        Check.due("6: round in the smallest", "##./##./...", Gardens.picture(small));
        HedgeGliders shut = new HedgeGliders();
        shut.lay(5, 4);
        Check.due("6: shut, a square at the last cells", 4, shut.plant(2, 0, 3, 2));
        Check.due("6: shut, a row upright at the right", 7, shut.plant(1, 1, 0, 1));
        Check.due("6: shut, a row over the bottom's place", 10, shut.plant(1, 0, 2, 0));
        Check.refuses("6: right", shut, IllegalStateException.class, () -> shut.plant(2, 0, 4, 0));
        Check.refuses("6: below", shut, IllegalStateException.class, () -> shut.plant(2, 0, 0, 3));
        Check.refuses("6: turned", shut, IllegalStateException.class, () -> shut.plant(2, 1, 3, 0));
        Check.due("6: not turned", 12, shut.plant(2, 0, 3, 0));
    }

    private static void plantingRefused() {
        HedgeGliders object = new HedgeGliders();
        for (boolean round : new boolean[] {false, true}) {
            object.setEdge(round);
            for (int far : new int[] {Integer.MIN_VALUE, -1, 4, Integer.MAX_VALUE}) {
                Check.refuses("6: figure " + far, object, IndexOutOfBoundsException.class,
                    () -> object.plant(far, 0, 7, 7));
                Check.refuses("6: turns " + far, object, IndexOutOfBoundsException.class,
                    () -> object.plant(0, far, 7, 7));
            }
            for (int far : new int[] {Integer.MIN_VALUE, -1, 8, Integer.MAX_VALUE}) {
                Check.refuses("6: x " + far, object, IndexOutOfBoundsException.class, () -> object.plant(0, 0, far, 7));
                Check.refuses("6: y " + far, object, IndexOutOfBoundsException.class, () -> object.plant(0, 0, 7, far));
            }
        }
    }

    private static void passing() {
        HedgeGliders object = Gardens.of(false, ".....", ".....", ".###.", ".....", ".....");
        Gardens.life(object);
        Check.due("7: one year", 3, object.pass(1));
        Check.due("7: all at once", "...../..#../..#../..#../.....", Gardens.picture(object));
        Check.due("7: births", 2, object.count(4));
        Check.due("7: deaths", 2, object.count(5));
        Check.due("7: a birth's age", 0, object.told(2, 1, 2));
        Check.due("7: one that stays is older", 1, object.told(2, 2, 2));
        Check.due("7: fifty", 3, object.pass(50));
        Check.due("7: the year", 51, object.count(0));
        Check.due("7: all births", 102, object.count(4));
        Check.due("7: all deaths", 102, object.count(5));
        Check.due("7: the oldest", 51, object.told(2, 2, 2));
        HedgeGliders bare = new HedgeGliders();
        bare.lay(4, 6);
        bare.setRules(1, 0);
        Check.due("7: births by none around", 24, bare.pass(1));
        Check.due("7: all die", 0, bare.pass(1));
        Check.due("7: deaths of all", 24, bare.count(5));
        for (int years : new int[] {Integer.MIN_VALUE, -1, 0, 51, Integer.MAX_VALUE}) {
            Check.refuses("7: pass(" + years + ")", object, IllegalArgumentException.class, () -> object.pass(years));
        }
    }
}
