/** Long runs of calls, drawn by a fixed number, each answered as the model of the document answers it. */
final class RandomRunsTest {
    private static final int RUNS = 300;
    private static final int CALLS = 512;
    private static final int[] STRANGE = {Integer.MIN_VALUE, -9, -2, -1, 3, 8, 9, 51, 512, 1 << 30, Integer.MAX_VALUE};
    private static final int[] BIRTHS = {8, 4, 12, 72, 1, 0, 511};
    private static final int[] STAYS = {62, 12, 0, 511, 30, 14, 256};

    private long number;

    private RandomRunsTest(int seed) {
        number = seed;
    }

    public static void main(String[] args) {
        for (int run = 0; run < RUNS; run++) {
            new RandomRunsTest(run).run(run);
        }
        Check.end();
    }

    private int below(int bound) {
        number = number * 6364136223846793005L + 1442695040888963407L;
        return (int) ((number >>> 33) % bound);
    }

    private int between(int from, int to) {
        if (below(40) == 0) {
            return STRANGE[below(STRANGE.length)];
        }
        return from + below(to - from + 1);
    }

    /** Digests are calls, too: behind the 512th call the document promises nothing. */
    private void run(int run) {
        HedgeGliders object = new HedgeGliders();
        Model model = new Model();
        for (int call = 1; call <= CALLS; call++) {
            String at = "run " + run + ", call " + call + ": ";
            if (call % 8 == 0) {
                Check.due(at + "digest", model.digest(), object.digest());
            } else {
                oneCall(at, object, model);
            }
        }
    }

    private void oneCall(String at, HedgeGliders o, Model m) {
        int which = below(100);
        int a = 0;
        int b = 0;
        if (which < 3) {
            a = between(3, 8);
            b = between(3, 8);
        } else if (which < 8) {
            a = below(3) == 0 ? between(0, 511) : BIRTHS[below(BIRTHS.length)];
            b = below(3) == 0 ? between(0, 511) : STAYS[below(STAYS.length)];
        }
        if (which < 40) {
            doInGarden(at, o, m, which, a, b);
        } else if (which < 70) {
            askWhatIs(at, o, m, which);
        } else {
            askWhatWouldBe(at, o, m, which);
        }
    }

    private void doInGarden(String at, HedgeGliders o, Model m, int which, int a, int b) {
        if (which < 3) {
            same(at + "lay", () -> m.lay(a, b), () -> o.lay(a, b));
        } else if (which < 8) {
            same(at + "setRules", () -> m.setRules(a, b), () -> o.setRules(a, b));
        } else if (which < 11) {
            boolean round = below(2) == 0;
            same(at + "setEdge", () -> m.setEdge(round) ? 1 : 0, () -> o.setEdge(round) ? 1 : 0);
        } else if (which < 20) {
            int x = between(0, m.count(1) - 1);
            int y = between(0, m.count(2) - 1);
            same(at + "turn", () -> m.turn(x, y), () -> o.turn(x, y));
        } else if (which < 32) {
            int figure = between(0, 3);
            int turns = between(0, 3);
            int x = between(0, m.count(1) - 1);
            int y = between(0, m.count(2) - 1);
            same(at + "plant", () -> m.plant(figure, turns, x, y), () -> o.plant(figure, turns, x, y));
        } else {
            int years = below(5) == 0 ? between(1, 50) : between(1, 3);
            same(at + "pass", () -> m.pass(years), () -> o.pass(years));
        }
    }

    private void askWhatIs(String at, HedgeGliders o, Model m, int which) {
        int x = between(0, m.count(1) - 1);
        int y = between(0, m.count(2) - 1);
        int tx = between(0, m.count(1) - 1);
        int ty = between(0, m.count(2) - 1);
        int what = between(0, which < 50 ? 4 : 10);
        if (which < 50) {
            same(at + "told", () -> m.told(x, y, what), () -> o.told(x, y, what));
        } else if (which < 60) {
            same(at + "count", () -> m.count(what), () -> o.count(what));
        } else {
            same(at + "way", () -> m.way(x, y, tx, ty), () -> o.way(x, y, tx, ty));
        }
    }

    private void askWhatWouldBe(String at, HedgeGliders o, Model m, int which) {
        int what = between(0, 2);
        if (which < 75) {
            same(at + "period", () -> m.period(what), () -> o.period(what));
        } else if (which < 82) {
            same(at + "glides", () -> m.glides(what), () -> o.glides(what));
        } else if (which < 90) {
            int years = between(1, 50);
            int asked = between(2, 11);
            same(at + "foresee", () -> m.foresee(years, asked), () -> o.foresee(years, asked));
        } else if (which < 95) {
            same(at + "advise", () -> m.advise(what), () -> o.advise(what));
        } else {
            same(at + "mean", m::mean, o::mean);
        }
    }

    private static void same(String what, Check.Call model, Check.Call object) {
        Check.due(what, Check.outcome(model), Check.outcome(object));
    }
}
