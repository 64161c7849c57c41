/** Gardens that are told by pictures: '#' is a hedge, '.' is open. */
final class Gardens {
    private Gardens() {
    }

    static HedgeGliders of(boolean round, String... rows) {
        HedgeGliders object = new HedgeGliders();
        object.setEdge(round);
        draw(object, rows);
        return object;
    }

    static void draw(HedgeGliders object, String... rows) {
        object.lay(rows[0].length(), rows.length);
        for (int y = 0; y < rows.length; y++) {
            for (int x = 0; x < rows[y].length(); x++) {
                if (rows[y].charAt(x) == '#') {
                    object.turn(x, y);
                }
            }
        }
    }

    static String picture(HedgeGliders object) {
        int w = object.count(1);
        int h = object.count(2);
        StringBuilder text = new StringBuilder();
        for (int y = 0; y < h; y++) {
            if (y > 0) {
                text.append('/');
            }
            for (int x = 0; x < w; x++) {
                text.append(object.told(x, y, 0) == 1 ? '#' : '.');
            }
        }
        return text.toString();
    }

    /** A new object with these rules. */
    static HedgeGliders ruled(boolean round, int births, int stays, String picture) {
        HedgeGliders object = of(round, picture.split("/"));
        object.setRules(births, stays);
        return object;
    }

    /** A garden of 3 by 3 with so many hedges around the cell in the middle, which is open. */
    static HedgeGliders ringed(int around) {
        HedgeGliders object = new HedgeGliders();
        object.lay(3, 3);
        int planted = 0;
        for (int cell = 0; cell < 9 && planted < around; cell++) {
            if (cell != 4) {
                object.turn(cell % 3, cell / 3);
                planted++;
            }
        }
        return object;
    }

    /** An object with a hedge in each cell. */
    static HedgeGliders full(boolean round, int w, int h) {
        HedgeGliders object = new HedgeGliders();
        object.setEdge(round);
        object.lay(w, h);
        for (int cell = 0; cell < w * h; cell++) {
            object.turn(cell % w, cell / w);
        }
        return object;
    }

    static int numbers(int... all) {
        int bits = 0;
        for (int number : all) {
            bits |= 1 << number;
        }
        return bits;
    }

    /** The rules of Conway's life: births 3, stays 2 and 3. */
    static void life(HedgeGliders object) {
        object.setRules(numbers(3), numbers(2, 3));
    }
}
