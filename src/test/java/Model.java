import java.util.ArrayDeque;
import java.util.Arrays;

/**
 * The document once more, cell by cell and as slowly as it is told there: what HedgeGliders answers is compared
 * with this. It shares no thought with the program on purpose: ages in a grid, -1 for an open cell.
 */
final class Model {
    private static final int[][][] FIGURES = {
        {{1, 0}, {2, 1}, {0, 2}, {1, 2}, {2, 2}},
        {{0, 1}, {1, 1}, {2, 1}},
        {{0, 0}, {1, 0}, {0, 1}, {1, 1}},
        {{1, 0}, {0, 1}, {1, 1}, {2, 1}, {1, 2}},
    };

    private int w = 8;
    private int h = 8;
    private boolean round = false;
    private int births = 8;
    private int stays = 62;
    private int year = 0;
    private int born = 0;
    private int died = 0;
    private int[][] ages = bare(8, 8);

    private static int[][] bare(int w, int h) {
        int[][] grid = new int[h][w];
        for (int[] row : grid) {
            Arrays.fill(row, -1);
        }
        return grid;
    }

    private Model copy() {
        Model other = new Model();
        other.w = w;
        other.h = h;
        other.round = round;
        other.births = births;
        other.stays = stays;
        other.year = year;
        other.born = born;
        other.died = died;
        other.ages = bare(w, h);
        for (int y = 0; y < h; y++) {
            other.ages[y] = ages[y].clone();
        }
        return other;
    }

    private void needCell(int x, int y) {
        if (x < 0 || x >= w || y < 0 || y >= h) {
            throw new IndexOutOfBoundsException();
        }
    }

    private static void needArgument(boolean right) {
        if (!right) {
            throw new IllegalArgumentException();
        }
    }

    private static void needIndex(boolean right) {
        if (!right) {
            throw new IndexOutOfBoundsException();
        }
    }

    /** The age there; -1 if it is open, -2 beyond a shut edge. */
    private int at(int x, int y) {
        if (!round && (x < 0 || x >= w || y < 0 || y >= h)) {
            return -2;
        }
        return ages[Math.floorMod(y, h)][Math.floorMod(x, w)];
    }

    private int around(int x, int y) {
        int n = 0;
        for (int dy = -1; dy <= 1; dy++) {
            for (int dx = -1; dx <= 1; dx++) {
                if ((dx != 0 || dy != 0) && at(x + dx, y + dy) >= 0) {
                    n++;
                }
            }
        }
        return n;
    }

    private boolean comes(int x, int y) {
        int bits = ages[y][x] >= 0 ? stays : births;
        return (bits >> around(x, y)) % 2 == 1;
    }

    private void oneYear() {
        int[][] next = bare(w, h);
        for (int y = 0; y < h; y++) {
            for (int x = 0; x < w; x++) {
                boolean had = ages[y][x] >= 0;
                boolean has = comes(x, y);
                next[y][x] = has ? (had ? ages[y][x] + 1 : 0) : -1;
                born += has && !had ? 1 : 0;
                died += had && !has ? 1 : 0;
            }
        }
        ages = next;
        year++;
    }

    private boolean[][] hedges() {
        boolean[][] grid = new boolean[h][w];
        for (int y = 0; y < h; y++) {
            for (int x = 0; x < w; x++) {
                grid[y][x] = ages[y][x] >= 0;
            }
        }
        return grid;
    }

    private int size() {
        int n = 0;
        for (int[] row : ages) {
            for (int age : row) {
                n += age >= 0 ? 1 : 0;
            }
        }
        return n;
    }

    /** The steps from a cell to all others over open ones, -1 where none leads. */
    private int[][] stepsFrom(int x, int y) {
        int[][] steps = bare(w, h);
        if (ages[y][x] >= 0) {
            return steps;
        }
        ArrayDeque<int[]> left = new ArrayDeque<>();
        steps[y][x] = 0;
        left.add(new int[] {x, y});
        while (!left.isEmpty()) {
            int[] cell = left.remove();
            for (int[] d : new int[][] {{1, 0}, {-1, 0}, {0, 1}, {0, -1}}) {
                if (at(cell[0] + d[0], cell[1] + d[1]) != -1) {
                    continue;
                }
                int nx = Math.floorMod(cell[0] + d[0], w);
                int ny = Math.floorMod(cell[1] + d[1], h);
                if (steps[ny][nx] < 0) {
                    steps[ny][nx] = steps[cell[1]][cell[0]] + 1;
                    left.add(new int[] {nx, ny});
                }
            }
        }
        return steps;
    }

    private int lawns(int what) {
        boolean[][] seen = new boolean[h][w];
        int lawns = 0;
        int greatest = 0;
        int still = 0;
        for (int i = 0; i < w * h; i++) {
            if (seen[i / w][i % w] || ages[i / w][i % w] >= 0) {
                continue;
            }
            int[][] steps = stepsFrom(i % w, i / w);
            int cells = 0;
            boolean quiet = true;
            for (int j = 0; j < w * h; j++) {
                if (steps[j / w][j % w] >= 0) {
                    seen[j / w][j % w] = true;
                    cells++;
                    quiet = quiet && !comes(j % w, j / w);
                }
            }
            lawns++;
            greatest = Math.max(greatest, cells);
            still += quiet ? 1 : 0;
        }
        return what == 7 ? lawns : what == 8 ? greatest : still;
    }

    int lay(int newW, int newH) {
        needArgument(newW >= 3 && newW <= 8 && newH >= 3 && newH <= 8);
        int before = size();
        w = newW;
        h = newH;
        ages = bare(w, h);
        return before;
    }

    int setRules(int newBirths, int newStays) {
        needArgument(newBirths >= 0 && newBirths <= 511 && newStays >= 0 && newStays <= 511);
        int before = 512 * births + stays;
        births = newBirths;
        stays = newStays;
        return before;
    }

    boolean setEdge(boolean goesRound) {
        boolean before = round;
        round = goesRound;
        return before;
    }

    int turn(int x, int y) {
        needCell(x, y);
        ages[y][x] = ages[y][x] >= 0 ? -1 : 0;
        return size();
    }

    int plant(int figure, int turns, int x, int y) {
        needIndex(figure >= 0 && figure <= 3 && turns >= 0 && turns <= 3);
        needCell(x, y);
        int[][] next = copy().ages;
        for (int[] cell : FIGURES[figure]) {
            int cx = cell[0];
            int cy = cell[1];
            for (int i = 0; i < turns; i++) {
                int old = cx;
                cx = 2 - cy;
                cy = old;
            }
            if (at(x + cx, y + cy) == -2) {
                throw new IllegalStateException();
            }
            next[(y + cy) % h][(x + cx) % w] = 0;
        }
        ages = next;
        return size();
    }

    int pass(int years) {
        needArgument(years >= 1 && years <= 50);
        for (int i = 0; i < years; i++) {
            oneYear();
        }
        return size();
    }

    int told(int x, int y, int what) {
        needCell(x, y);
        needIndex(what >= 0 && what <= 4);
        switch (what) {
            case 0:
                return ages[y][x] >= 0 ? 1 : 0;
            case 1:
                return around(x, y);
            case 2:
                return ages[y][x];
            case 3:
                int cells = 0;
                for (int[] row : stepsFrom(x, y)) {
                    for (int steps : row) {
                        cells += steps >= 0 ? 1 : 0;
                    }
                }
                return cells;
            default:
                return comes(x, y) ? 1 : 0;
        }
    }

    int count(int what) {
        needIndex(what >= 0 && what <= 10);
        if (what >= 7 && what <= 9) {
            return lawns(what);
        }
        int oldest = -1;
        for (int[] row : ages) {
            for (int age : row) {
                oldest = Math.max(oldest, age);
            }
        }
        return new int[] {year, w, h, size(), born, died, round ? 1 : 0, 0, 0, 0, oldest}[what];
    }

    int way(int x, int y, int tx, int ty) {
        needCell(x, y);
        needCell(tx, ty);
        return stepsFrom(x, y)[ty][tx];
    }

    int period(int what) {
        needIndex(what == 0 || what == 1);
        boolean[][][] coming = new boolean[61][][];
        Model other = copy();
        for (int i = 0; i <= 60; i++) {
            coming[i] = other.hedges();
            other.oneYear();
        }
        for (int i = 0; i <= 60; i++) {
            for (int j = i + 1; j <= 60; j++) {
                if (Arrays.deepEquals(coming[i], coming[j])) {
                    return what == 0 ? i : j - i;
                }
            }
        }
        return -1;
    }

    int glides(int what) {
        needIndex(what >= 0 && what <= 2);
        if (!round || size() == 0) {
            return -1;
        }
        Model other = copy();
        for (int years = 1; years <= 30; years++) {
            other.oneYear();
            for (int dy = 0; dy < h; dy++) {
                for (int dx = 0; dx < w; dx++) {
                    if ((dx != 0 || dy != 0) && other.isMoved(this, dx, dy)) {
                        return what == 0 ? years : what == 1 ? dx : dy;
                    }
                }
            }
        }
        return -1;
    }

    private boolean isMoved(Model from, int dx, int dy) {
        for (int y = 0; y < h; y++) {
            for (int x = 0; x < w; x++) {
                if (from.ages[y][x] >= 0 != ages[(y + dy) % h][(x + dx) % w] >= 0) {
                    return false;
                }
            }
        }
        return true;
    }

    int foresee(int years, int what) {
        needArgument(years >= 1 && years <= 50);
        needIndex(what >= 3 && what <= 10 && what != 6);
        Model other = copy();
        other.pass(years);
        return other.count(what);
    }

    int advise(int years) {
        needArgument(years == 1 || years == 2);
        int most = foresee(years, 3);
        int best = -1;
        for (int i = 0; i < w * h; i++) {
            if (ages[i / w][i % w] < 0) {
                Model other = copy();
                other.ages[i / w][i % w] = 0;
                int size = other.pass(years);
                if (size > most) {
                    most = size;
                    best = i;
                }
            }
        }
        return best;
    }

    double mean() {
        double sum = 0;
        for (int[] row : ages) {
            for (int age : row) {
                sum += Math.max(age, 0);
            }
        }
        return size() == 0 ? 0 : sum / size();
    }

    long digest() {
        long d = 1597;
        for (int what = 0; what <= 10; what++) {
            d = d * 31 + count(what);
        }
        d = (d * 31 + births) * 31 + stays;
        for (int y = 0; y < h; y++) {
            for (int x = 0; x < w; x++) {
                for (int what = 0; what <= 4; what++) {
                    d = d * 31 + told(x, y, what);
                }
            }
        }
        return d;
    }
}
