/**
 * Every garden of 3 by 3 cells, and every figure in a garden of every size, each answered as the model answers it.
 * The random runs seldom meet a garden that glides or looks the same when it is moved: here these all come.
 */
final class EveryGardenTest {
    private static final int ALL = 511;
    private static final int[][] RULES = {{8, 62}, {8, 12}, {0, ALL}, {2, 0}, {1, 256}, {84, 170}};
    private static final int[] FORESEEN = {3, 4, 5, 7, 8, 9, 10};

    private static int glided = 0;
    private static int cameAgain = 0;
    private static int advised = 0;

    public static void main(String[] args) {
        for (int picture = 0; picture < 512; picture++) {
            for (int[] rules : RULES) {
                smallGarden(picture, rules, false);
                smallGarden(picture, rules, true);
            }
        }
        for (int size = 0; size < 36; size++) {
            for (int figure = 0; figure < 16; figure++) {
                figure(3 + size % 6, 3 + size / 6, figure / 4, figure % 4);
            }
        }
        Check.due("gardens that glide are among them", 1, glided > 200 ? 1 : 0);
        Check.due("gardens that come again are among them", 1, cameAgain > 1000 ? 1 : 0);
        Check.due("gardens where one more is better are among them", 1, advised > 1000 ? 1 : 0);
        Check.end();
    }

    private static void smallGarden(int picture, int[] rules, boolean round) {
        HedgeGliders object = new HedgeGliders();
        Model model = new Model();
        object.lay(3, 3);
        model.lay(3, 3);
        object.setEdge(round);
        model.setEdge(round);
        object.setRules(rules[0], rules[1]);
        model.setRules(rules[0], rules[1]);
        for (int cell = 0; cell < 9; cell++) {
            if ((picture >> cell & 1) != 0) {
                object.turn(cell % 3, cell / 3);
                model.turn(cell % 3, cell / 3);
            }
        }
        String at = "garden " + picture + ", rules " + rules[0] + " " + rules[1] + (round ? ", round" : ", shut");
        compare(at, object, model);
        same(at + ", 7: pass", () -> model.pass(1), () -> object.pass(1));
        Check.due(at + ", 16: digest a year later", model.digest(), object.digest());
    }

    private static void figure(int w, int h, int figure, int turns) {
        HedgeGliders object = new HedgeGliders();
        Model model = new Model();
        object.lay(w, h);
        model.lay(w, h);
        object.setEdge(true);
        model.setEdge(true);
        object.setRules(8, 12);
        model.setRules(8, 12);
        String at = "figure " + figure + ", turns " + turns + ", " + w + " by " + h;
        same(at + ", 6: plant", () -> model.plant(figure, turns, w - 1, h - 2),
            () -> object.plant(figure, turns, w - 1, h - 2));
        for (int year = 0; year < 3; year++) {
            compare(at + ", year " + year, object, model);
            same(at + ", 7: pass", () -> model.pass(1), () -> object.pass(1));
        }
    }

    private static void compare(String at, HedgeGliders object, Model model) {
        Check.due(at + ", 16: digest", model.digest(), object.digest());
        for (int what = 0; what < 3; what++) {
            int asked = what;
            same(at + ", 12: glides(" + what + ")", () -> model.glides(asked), () -> object.glides(asked));
        }
        for (int what = 0; what < 2; what++) {
            int asked = what;
            same(at + ", 11: period(" + what + ")", () -> model.period(asked), () -> object.period(asked));
            same(at + ", 14: advise", () -> model.advise(asked + 1), () -> object.advise(asked + 1));
        }
        for (int what : FORESEEN) {
            same(at + ", 13: foresee(3, " + what + ")", () -> model.foresee(3, what), () -> object.foresee(3, what));
        }
        same(at + ", 15: mean", model::mean, object::mean);
        glided += object.glides(0) > 0 ? 1 : 0;
        cameAgain += object.period(1) > 1 ? 1 : 0;
        advised += object.advise(1) >= 0 ? 1 : 0;
        Check.due(at + ", nothing is changed", model.digest(), object.digest());
    }

    private static void same(String what, Check.Call model, Check.Call object) {
        Check.due(what, Check.outcome(model), Check.outcome(object));
    }
}
