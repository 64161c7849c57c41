/** Gardens that are told by pictures: '#' is a hedge, '.' is open. */
final class Gardens {
    private Gardens() {
    }

    static HedgeGliders of(boolean round, String... rows) {
        HedgeGliders object = new HedgeGliders();
        object.setEdge(round);
        draw(object, rows);
        return object;
    }

    static void draw(HedgeGliders object, String... rows) {
        object.lay(rows[0].length(), rows.length);
        for (int y = 0; y < rows.length; y++) {
            for (int x = 0; x < rows[y].length(); x++) {
                if (rows[y].charAt(x) == '#') {
                    object.turn(x, y);
                }
            }
        }
    }

    static String picture(HedgeGliders object) {
        StringBuilder text = new StringBuilder();
        for (int y = 0; y < object.count(2); y++) {
            if (y > 0) {
                text.append('/');
            }
            for (int x = 0; x < object.count(1); x++) {
                text.append(object.told(x, y, 0) == 1 ? '#' : '.');
            }
        }
        return text.toString();
    }

    static int numbers(int... all) {
        int bits = 0;
        for (int number : all) {
            bits |= 1 << number;
        }
        return bits;
    }

    /** The rules of Conway's life: births 3, stays 2 and 3. */
    static void life(HedgeGliders object) {
        object.setRules(numbers(3), numbers(2, 3));
    }
}
