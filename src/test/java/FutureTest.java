/** Promises 11 to 16: what would be, the mean and the digest. */
final class FutureTest {
    public static void main(String[] args) {
        periods();
        periodsAtTheLimit();
        gliding();
        glidingOfOthers();
        glidingAtTheLimit();
        foreseeing();
        foreseeingRefused();
        advising();
        means();
        digests();
        refused();
        Check.end();
    }

    private static void periods() {
        HedgeGliders object = Gardens.of(false, ".....", "..#..", "..#..", "..#..", ".....");
        Gardens.life(object);
        unchanged("11: a row", object, () -> object.period(0), 0);
        unchanged("11: a row", object, () -> object.period(1), 2);
        HedgeGliders open = new HedgeGliders();
        Check.due("11: an open one", 0, open.period(0));
        Check.due("11: an open one comes again", 1, open.period(1));
        HedgeGliders dying = Gardens.of(false, "...", ".##", "...");
        Gardens.life(dying);
        Check.due("11: open behind one", 1, dying.period(0));
        Check.due("11: then each year", 1, dying.period(1));
        HedgeGliders glider = new HedgeGliders();
        Gardens.life(glider);
        glider.setEdge(true);
        glider.plant(0, 0, 0, 0);
        Check.due("11: one that is moved is another", 0, glider.period(0));
        Check.due("11: a glider goes round", 32, glider.period(1));
        glider.setEdge(false);
        Check.due("11: a glider ends in the corner", 23, glider.period(0));
        Check.due("11: as a square", 1, glider.period(1));
    }

    private static void periodsAtTheLimit() {
        int within = 0;
        int beyond = 0;
        for (int seed = 1; seed < 400; seed++) {
            HedgeGliders object = new HedgeGliders();
            object.setEdge(true);
            Gardens.life(object);
            scatter(object, seed);
            int first = object.period(0);
            int more = object.period(1);
            Check.due("11: both or none", first < 0 ? 1 : 0, more < 0 ? 1 : 0);
            Check.due("11: as it goes, seed " + seed, period(object, 0) * 100L + period(object, 1), first * 100L + more);
            within += first + more >= 40 ? 1 : 0;
            beyond += first < 0 ? 1 : 0;
        }
        Check.due("11: long ones are among them", 1, within > 0 ? 1 : 0);
        Check.due("11: too long ones are among them", 1, beyond > 0 ? 1 : 0);
    }

    /** What period() is to answer, found by letting the years go by: in life, as an object lives for 512 calls only. */
    private static int period(HedgeGliders object, int what) {
        String[] pictures = new String[61];
        pictures[0] = Gardens.picture(object);
        boolean round = object.count(6) == 1;
        for (int i = 1; i <= 60; i++) {
            HedgeGliders other = Gardens.of(round, pictures[i - 1].split("/"));
            Gardens.life(other);
            other.pass(1);
            pictures[i] = Gardens.picture(other);
        }
        for (int first = 0; first < 60; first++) {
            for (int again = first + 1; again <= 60; again++) {
                if (pictures[first].equals(pictures[again])) {
                    return what == 0 ? first : again - first;
                }
            }
        }
        return -1;
    }

    private static void scatter(HedgeGliders object, int seed) {
        long number = seed;
        for (int i = 0; i < 64; i++) {
            number = number * 6364136223846793005L + 1442695040888963407L;
            if ((number >>> 60) < 6) {
                object.turn(i % 8, i / 8);
            }
        }
    }

    private static void gliding() {
        int[][] due = {{1, 1}, {7, 1}, {7, 7}, {1, 7}};
        for (int turns = 0; turns < 4; turns++) {
            HedgeGliders object = new HedgeGliders();
            Gardens.life(object);
            object.setEdge(true);
            object.plant(0, turns, 6, 5);
            String call = "12: a glider turned " + turns;
            unchanged(call, object, () -> object.glides(0), 4);
            unchanged(call + " dx", object, () -> object.glides(1), due[turns][0]);
            unchanged(call + " dy", object, () -> object.glides(2), due[turns][1]);
            object.setEdge(false);
            for (int what = 0; what < 3; what++) {
                Check.due(call + ", shut", -1, object.glides(what));
            }
        }
    }

    private static void glidingOfOthers() {
        HedgeGliders open = new HedgeGliders();
        open.setEdge(true);
        HedgeGliders square = Gardens.of(true, "##...", "##...", ".....", ".....", ".....");
        Gardens.life(square);
        HedgeGliders dying = Gardens.of(true, "#....", ".....", ".....", ".....");
        for (int what = 0; what < 3; what++) {
            Check.due("12: no hedges", -1, open.glides(what));
            Check.due("12: one that stays where it is", -1, square.glides(what));
            Check.due("12: one that dies", -1, dying.glides(what));
        }
        glidesBy("12: a full one", 1, 0, Gardens.of(true, "####", "####", "####"));
        glidesBy("12: rows", 1, 0, Gardens.of(true, "####", "....", "...."));
        glidesBy("12: columns", 0, 1, Gardens.of(true, "#...", "#...", "#..."));
        glidesBy("12: the least dx", 2, 0, Gardens.of(true, "#.#.#.", "#.#.#.", "......"));
        glidesBy("12: the least dy ahead of dx", 3, 1, Gardens.of(true, "##....", "...##.", "##....", "...##."));
        HedgeGliders ship = Gardens.of(true,
            "........", "..#..#..", ".#......", ".#...#..", ".####...", "........", "........", "........");
        Gardens.life(ship);
        Check.due("12: a ship glides within four years", 4, ship.glides(0));
        Check.due("12: a ship's dx", 6, ship.glides(1));
        Check.due("12: a ship's dy", 0, ship.glides(2));
    }

    private static void glidingAtTheLimit() {
        HedgeGliders last = Gardens.of(true, ".#.#.", ".#.##", "....#", "..###");
        last.setRules(154, 209);
        Check.due("12: behind 30 years", 30, last.glides(0));
        Check.due("12: behind 30 years, dx", 4, last.glides(1));
        Check.due("12: behind 30 years, dy", 0, last.glides(2));
        HedgeGliders late = Gardens.of(true, ".....", "..#..", ".#...", ".#..#", ".....");
        late.setRules(362, 450);
        for (int what = 0; what < 3; what++) {
            Check.due("12: behind 31 years is too late", -1, late.glides(what));
        }
        late.pass(31);
        Check.due("12: behind 31 years it is moved", "..#../.#.../.#..#/...../.....", Gardens.picture(late));
    }

    private static void glidesBy(String what, int dx, int dy, HedgeGliders object) {
        object.setRules(0, 511);
        Check.due(what + ", years", 1, object.glides(0));
        Check.due(what + ", dx", dx, object.glides(1));
        Check.due(what + ", dy", dy, object.glides(2));
    }

    private static void foreseeing() {
        for (int years = 1; years <= 50; years += 7) {
            for (int what = 3; what <= 10; what++) {
                if (what == 6) {
                    continue;
                }
                HedgeGliders object = new HedgeGliders();
                scatter(object, what);
                object.pass(2);
                HedgeGliders other = new HedgeGliders();
                scatter(other, what);
                other.pass(2);
                other.pass(years);
                int asked = what;
                int ahead = years;
                String call = "13: foresee(" + years + ", " + what + ")";
                unchanged(call, object, () -> object.foresee(ahead, asked), other.count(what));
            }
        }
    }

    private static void foreseeingRefused() {
        HedgeGliders object = new HedgeGliders();
        for (int what : new int[] {Integer.MIN_VALUE, -1, 0, 1, 2, 6, 11, Integer.MAX_VALUE}) {
            Check.refuses("13: what " + what, object, IndexOutOfBoundsException.class, () -> object.foresee(1, what));
            Check.refuses("13: years first, what " + what, object, IllegalArgumentException.class,
                () -> object.foresee(0, what));
        }
        for (int years : new int[] {Integer.MIN_VALUE, -1, 0, 51, Integer.MAX_VALUE}) {
            Check.refuses("13: years " + years, object, IllegalArgumentException.class, () -> object.foresee(years, 3));
        }
        Check.due("13: fifty years", 0, object.foresee(50, 3));
    }

    private static void advising() {
        HedgeGliders object = Gardens.of(false, "......", "......", "..##..", "......", "......");
        Gardens.life(object);
        unchanged("14: a third one, the smallest place", object, () -> object.advise(1), 6 * 1 + 2);
        unchanged("14: for two years", object, () -> object.advise(2), advised(object, 2));
        Check.due("14: an open garden, where one more stays", -1, Gardens.of(false, "...", "...", "...").advise(1));
        HedgeGliders staying = Gardens.of(false, "####", "####", "##.#");
        staying.setRules(0, 511);
        Check.due("14: the only open cell", 4 * 2 + 2, staying.advise(2));
        staying.turn(2, 2);
        Check.due("14: no open cell", -1, staying.advise(1));
        HedgeGliders lonely = new HedgeGliders();
        lonely.setRules(0, 1);
        Check.due("14: the smallest of all", 0, lonely.advise(1));
        lonely.turn(0, 0);
        Check.due("14: away from the other", 2, lonely.advise(2));
        lonely.setRules(0, 0);
        Check.due("14: none is better", -1, lonely.advise(1));
        for (int seed = 2; seed < 60; seed++) {
            HedgeGliders any = new HedgeGliders();
            any.setEdge(seed % 4 < 2);
            scatter(any, seed / 2);
            any.pass(1 + seed % 3);
            int years = 1 + seed % 2;
            Check.due("14: years " + years + ", seed " + seed, advised(any, years), any.advise(years));
        }
    }

    /** What advise() is to answer, found by planting each cell and cutting it again. */
    private static int advised(HedgeGliders object, int years) {
        int w = object.count(1);
        String cells = Gardens.picture(object).replace("/", "");
        int most = object.foresee(years, 3);
        int best = -1;
        for (int i = 0; i < cells.length(); i++) {
            if (cells.charAt(i) == '.') {
                object.turn(i % w, i / w);
                int size = object.foresee(years, 3);
                object.turn(i % w, i / w);
                if (size > most) {
                    most = size;
                    best = i;
                }
            }
        }
        return best;
    }

    private static void means() {
        HedgeGliders object = new HedgeGliders();
        object.setRules(0, 511);
        object.turn(7, 7);
        Check.due("15: a young one", 0.0, object.mean());
        object.pass(5);
        Check.due("15: one", 5.0, object.mean());
        object.turn(0, 0);
        object.pass(1);
        Check.due("15: two", 3.5, object.mean());
        object.turn(3, 0);
        Check.due("15: three", 7.0 / 3.0, object.mean());
        object.lay(4, 4);
        Check.due("15: none", 0.0, object.mean());
    }

    private static void digests() {
        for (int year = 0; year < 5; year++) {
            HedgeGliders object = new HedgeGliders();
            scatter(object, 5);
            object.lay(6, 7);
            object.plant(0, 0, 1, 2);
            object.setRules(77, 300);
            object.setEdge(true);
            if (year > 0) {
                object.pass(year);
            }
            long due = 1597;
            for (int what = 0; what <= 10; what++) {
                due = due * 31 + object.count(what);
            }
            due = (due * 31 + 77) * 31 + 300;
            for (int y = 0; y < 7; y++) {
                for (int x = 0; x < 6; x++) {
                    for (int what = 0; what < 5; what++) {
                        due = due * 31 + object.told(x, y, what);
                    }
                }
            }
            Check.due("16: in the year " + year, due, object.digest());
            Check.due("16: once more", due, object.digest());
        }
    }

    private static void refused() {
        HedgeGliders object = new HedgeGliders();
        for (int far : new int[] {Integer.MIN_VALUE, -1, 3, Integer.MAX_VALUE}) {
            Check.refuses("11: what " + far, object, IndexOutOfBoundsException.class, () -> object.period(far));
            Check.refuses("12: what " + far, object, IndexOutOfBoundsException.class, () -> object.glides(far));
            Check.refuses("14: years " + far, object, IllegalArgumentException.class, () -> object.advise(far));
        }
        Check.refuses("11: what 2", object, IndexOutOfBoundsException.class, () -> object.period(2));
        Check.refuses("14: years 0", object, IllegalArgumentException.class, () -> object.advise(0));
    }

    private static void unchanged(String what, HedgeGliders object, Check.Call call, int due) {
        long before = object.digest();
        Check.due(what, "" + due, Check.outcome(call));
        Check.due(what + " changes nothing", before, object.digest());
    }
}
