import java.math.BigInteger;
import java.util.ArrayList;
import java.util.Arrays;
import java.util.List;

/**
 * The document told once more, as plainly as it can be and by other ways than the program's, for the tests to
 * compare with: sides are looked up in a table, areas are counted, polygons grow forward with their whole rows.
 */
final class Reference {
    private static final int[][] STEPS = {{1, 0}, {0, 1}, {-1, 0}, {0, -1}};

    private static final class Outline {
        int layer;
        final List<int[]> points = new ArrayList<>();
        boolean[][] round;
        int area;

        int[] at(int i) {
            return points.get(i % points.size());
        }
    }

    private static final class Curve {
        int first;
        int length;
        int f;
        final int[][] hand = new int[4][];
    }

    private final int width;
    private final int height;
    private final int[][] colours;
    private List<Outline> outlines;
    private Outline of;
    private List<Integer> corners;
    private int cost;
    private List<Curve> curves;

    Reference(int width, int height) {
        this.width = width < 1 ? 1 : width > 16 ? 16 : width;
        this.height = height < 1 ? 1 : height > 16 ? 16 : height;
        colours = new int[this.width][this.height];
    }

    int put(int x, int y, int n, int colour) {
        sample(x, y);
        told(n >= 1 && colour >= 0 && colour <= 7);
        int others = 0;
        for (int i = x; i < width && i - x < n; i++) {
            if (colours[i][y] != colour) {
                others++;
                colours[i][y] = colour;
            }
        }
        if (others > 0) {
            outlines = null;
            corners = null;
            curves = null;
        }
        return others;
    }

    int trace(int turn, int speck) {
        told(turn >= 0 && turn <= 3 && speck >= 0 && speck <= 256);
        outlines = new ArrayList<>();
        corners = null;
        curves = null;
        for (int layer = 1; layer <= 7; layer++) {
            boolean[][][] sides = sidesOf(layer);
            for (int y = 0; y <= height; y++) {
                for (int x = 0; x <= width; x++) {
                    if (sides[x][y][0]) {
                        Outline outline = walk(sides, x, y, layer, turn);
                        if (Math.abs(outline.area) > speck) {
                            outlines.add(outline);
                        }
                    }
                }
            }
        }
        return outlines.size();
    }

    private boolean inside(int x, int y, int layer) {
        return x >= 0 && y >= 0 && x < width && y < height && colours[x][y] >= layer;
    }

    /** Whether a side leads from a point in a direction, the inside to its right. */
    private boolean[][][] sidesOf(int layer) {
        boolean[][][] sides = new boolean[width + 1][height + 1][4];
        for (int x = 0; x <= width; x++) {
            for (int y = 0; y <= height; y++) {
                boolean nw = inside(x - 1, y - 1, layer);
                boolean ne = inside(x, y - 1, layer);
                boolean sw = inside(x - 1, y, layer);
                boolean se = inside(x, y, layer);
                sides[x][y][0] = se && !ne;
                sides[x][y][1] = sw && !se;
                sides[x][y][2] = nw && !sw;
                sides[x][y][3] = ne && !nw;
            }
        }
        return sides;
    }

    private Outline walk(boolean[][][] sides, int x0, int y0, int layer, int turn) {
        Outline outline = new Outline();
        boolean[][][] all = sidesOf(layer);
        outline.layer = layer;
        int x = x0;
        int y = y0;
        int d = 0;
        while (sides[x][y][d]) {
            sides[x][y][d] = false;
            outline.points.add(new int[] {x, y});
            x += STEPS[d][0];
            y += STEPS[d][1];
            d = onward(all[x][y], x, y, d, layer, turn);
        }
        measure(outline);
        return outline;
    }

    private int onward(boolean[] from, int x, int y, int d, int layer, int turn) {
        int left = (d + 3) % 4;
        int right = (d + 1) % 4;
        if (!(from[left] && from[right])) {
            return from[left] ? left : from[right] ? right : d;
        }
        int near = 0;
        for (int i = -2; i < 2; i++) {
            for (int j = -2; j < 2; j++) {
                near += inside(x + i, y + j, layer) ? 1 : 0;
            }
        }
        boolean goesLeft = turn == 0 || turn == 2 && near <= 8 || turn == 3 && (x + y) % 2 == 0;
        return goesLeft ? left : right;
    }

    private void measure(Outline outline) {
        outline.round = new boolean[width][height];
        int samples = 0;
        for (int x = 0; x < width; x++) {
            for (int y = 0; y < height; y++) {
                outline.round[x][y] = uprights(outline, x, y) % 2 == 1;
                samples += outline.round[x][y] ? 1 : 0;
            }
        }
        int[] first = outline.at(0);
        outline.area = outline.round[first[0]][first[1]] ? samples : -samples;
    }

    private int uprights(Outline outline, int x, int y) {
        int found = 0;
        for (int i = 0; i < outline.points.size(); i++) {
            int[] a = outline.at(i);
            int[] b = outline.at(i + 1);
            if (a[0] == b[0] && a[0] <= x && Math.min(a[1], b[1]) == y) {
                found++;
            }
        }
        return found;
    }

    int about(int o, int what) {
        traced();
        Outline outline = outline(o);
        switch (what) {
            case 0: return outline.points.size();
            case 1: return outline.layer;
            case 2: return outline.area;
            case 3: return liesIn(outline);
            default: return -1;
        }
    }

    private int liesIn(Outline outline) {
        boolean hole = outline.area < 0;
        int x = outline.at(0)[0];
        int y = outline.at(0)[1] + (hole ? 0 : -1);
        int found = -1;
        for (int i = 0; i < outlines.size(); i++) {
            Outline other = outlines.get(i);
            if (other.layer != outline.layer || other.area < 0 == hole || y < 0 || !other.round[x][y]) {
                continue;
            }
            if (found < 0 || Math.abs(other.area) < Math.abs(outlines.get(found).area)) {
                found = i;
            }
        }
        return found;
    }

    int point(int o, int i, int axis) {
        traced();
        Outline outline = outline(o);
        exists(i, outline.points.size());
        told(axis == 0 || axis == 1);
        return outline.at(i)[axis];
    }

    int covered(int x, int y) {
        traced();
        sample(x, y);
        int colour = 0;
        for (int layer = 1; layer <= 7; layer++) {
            int sum = 0;
            for (Outline outline : outlines) {
                sum += outline.layer == layer ? uprights(outline, x, y) : 0;
            }
            colour = sum % 2 == 1 ? layer : colour;
        }
        return colour;
    }

    int piece(int o, int i, int k, int stiffness) {
        traced();
        Outline outline = outline(o);
        exists(i, outline.points.size());
        told(k >= 1 && k <= 24 && stiffness >= 1 && stiffness <= 8);
        return costOf(outline, i, k, stiffness);
    }

    private static int costOf(Outline outline, int i, int k, int stiffness) {
        if (k == 1) {
            return 0;
        }
        int[] a = outline.at(i);
        int[] b = outline.at(i + k);
        boolean[] seen = new boolean[4];
        int sum = 0;
        for (int j = 0; j < k; j++) {
            for (int d = 0; d < 4; d++) {
                seen[d] |= outline.at(i + j + 1)[0] - outline.at(i + j)[0] == STEPS[d][0]
                        && outline.at(i + j + 1)[1] - outline.at(i + j)[1] == STEPS[d][1];
            }
            int[] q = outline.at(i + j);
            int cross = Math.abs(cross(a, b, a, q));
            if (j > 0 && 2 * cross > stiffness * Math.max(Math.abs(b[0] - a[0]), Math.abs(b[1] - a[1]))) {
                return -1;
            }
            sum += cross;
        }
        return seen[0] && seen[1] && seen[2] && seen[3] ? -1 : sum;
    }

    private static int cross(int[] a, int[] b, int[] c, int[] d) {
        return (b[0] - a[0]) * (d[1] - c[1]) - (b[1] - a[1]) * (d[0] - c[0]);
    }

    private static int inner(int[] a, int[] b, int[] c, int[] d) {
        return (b[0] - a[0]) * (d[0] - c[0]) + (b[1] - a[1]) * (d[1] - c[1]);
    }

    int polygon(int o, int stiffness) {
        traced();
        Outline outline = outline(o);
        told(stiffness >= 1 && stiffness <= 8);
        of = outline;
        curves = null;
        int n = outline.points.size();
        int[][] costs = new int[n][25];
        for (int i = 0; i < n; i++) {
            for (int k = 1; k <= 24; k++) {
                costs[i][k] = costOf(outline, i, k, stiffness);
            }
        }
        corners = null;
        for (int start = 0; start < n; start++) {
            grow(start, n, costs);
        }
        return corners.size();
    }

    /** Of each number of corners and each last corner the row that costs least, of these the first row. */
    private void grow(int start, int n, int[][] costs) {
        int[] sums = new int[n];
        int[][] rows = new int[n][];
        rows[start] = new int[] {start};
        for (int count = 1; count <= n; count++) {
            int[] nextSums = new int[n];
            int[][] nextRows = new int[n][];
            for (int i = start; i < n; i++) {
                if (rows[i] == null) {
                    continue;
                }
                int round = n + start - i;
                if (count >= 3 && round <= 24 && costs[i][round] >= 0) {
                    offer(rows[i], sums[i] + costs[i][round]);
                }
                for (int k = 1; k <= 24 && i + k < n; k++) {
                    if (costs[i][k] < 0) {
                        continue;
                    }
                    int sum = sums[i] + costs[i][k];
                    int[] row = Arrays.copyOf(rows[i], count + 1);
                    row[count] = i + k;
                    int[] had = nextRows[i + k];
                    if (had == null || sum < nextSums[i + k]
                            || sum == nextSums[i + k] && Arrays.compare(row, had) < 0) {
                        nextRows[i + k] = row;
                        nextSums[i + k] = sum;
                    }
                }
            }
            if (corners != null && corners.size() <= count) {
                return;
            }
            sums = nextSums;
            rows = nextRows;
        }
    }

    private void offer(int[] row, int sum) {
        boolean better = corners == null || row.length < corners.size()
                || row.length == corners.size() && sum < cost;
        if (!better && row.length == corners.size() && sum == cost) {
            int[] had = corners.stream().mapToInt(Integer::intValue).toArray();
            better = Arrays.compare(row, had) < 0;
        }
        if (better) {
            corners = new ArrayList<>();
            for (int i : row) {
                corners.add(i);
            }
            cost = sum;
        }
    }

    private int[] at(int k) {
        return of.at(corners.get((k + 2 * corners.size()) % corners.size()));
    }

    private int angle(int k) {
        int p = inner(at(k - 1), at(k), at(k), at(k + 1));
        return p <= 0 ? 64 : Math.min(63, 16 * Math.abs(turnOf(k)) / p);
    }

    private int turnOf(int k) {
        return cross(at(k - 1), at(k), at(k), at(k + 1));
    }

    int corner(int k, int what) {
        state(corners != null);
        exists(k, corners.size());
        switch (what) {
            case 0: return corners.get(k);
            case 1: return at(k)[0];
            case 2: return at(k)[1];
            case 3: return angle(k);
            case 4: return Integer.signum(turnOf(k));
            default: return -1;
        }
    }

    int curves(int sharpness, int error) {
        state(corners != null);
        told(sharpness >= 0 && sharpness <= 65 && error >= 0 && error <= 64);
        int all = corners.size();
        int beginning = 0;
        for (int k = all - 1; k >= 0; k--) {
            beginning = angle(k) >= sharpness ? k : beginning;
        }
        List<List<Curve>> best = new ArrayList<>();
        for (int at = 0; at <= all; at++) {
            best.add(null);
        }
        best.set(all, new ArrayList<>());
        for (int at = all - 1; at >= 0; at--) {
            for (int length = 1; length <= 6 && at + length <= all; length++) {
                Curve curve = curveAt((beginning + at) % all, length, sharpness, error);
                if (curve == null) {
                    continue;
                }
                List<Curve> row = new ArrayList<>();
                row.add(curve);
                row.addAll(best.get(at + length));
                if (best.get(at) == null || isBefore(row, best.get(at))) {
                    best.set(at, row);
                }
            }
        }
        curves = best.get(0);
        return curves.size();
    }

    private static boolean isBefore(List<Curve> row, List<Curve> other) {
        if (row.size() != other.size()) {
            return row.size() < other.size();
        }
        for (int i = 0; i < row.size(); i++) {
            if (row.get(i).length != other.get(i).length) {
                return row.get(i).length > other.get(i).length;
            }
        }
        return false;
    }

    private Curve curveAt(int first, int length, int sharpness, int error) {
        Curve curve = new Curve();
        curve.first = first;
        curve.length = length;
        if (length == 1) {
            curve.f = angle(first) >= sharpness ? 0 : 8 + angle(first) / 8;
            lay(curve);
            return curve;
        }
        boolean right = true;
        boolean left = true;
        for (int k = first; k < first + length; k++) {
            int corner = k % corners.size();
            right &= turnOf(corner) > 0;
            left &= turnOf(corner) < 0;
            if (angle(corner) >= sharpness) {
                return null;
            }
        }
        for (int f = 1; f <= 64 && (left || right); f++) {
            curve.f = f;
            lay(curve);
            boolean near = true;
            for (int t = 1; t <= 7 && near; t++) {
                near = isNear(curve, t, error);
            }
            if (near) {
                return curve;
            }
        }
        return null;
    }

    private void lay(Curve curve) {
        int[] a = at(curve.first - 1);
        int[] b = at(curve.first);
        int[] z = at(curve.first + curve.length - 1);
        int[] c = at(curve.first + curve.length);
        for (int i = 0; i < 4; i++) {
            curve.hand[i] = new int[2];
        }
        for (int axis = 0; axis < 2; axis++) {
            curve.hand[0][axis] = 16 * (a[axis] + b[axis]);
            curve.hand[1][axis] = curve.f == 0 ? 32 * b[axis] : (16 - curve.f) * a[axis] + (16 + curve.f) * b[axis];
            curve.hand[2][axis] = curve.f == 0 ? 32 * b[axis] : (16 + curve.f) * z[axis] + (16 - curve.f) * c[axis];
            curve.hand[3][axis] = 16 * (z[axis] + c[axis]);
        }
    }

    private static int placeOf(Curve curve, int t, int axis) {
        int[] p = new int[4];
        for (int i = 0; i < 4; i++) {
            p[i] = curve.hand[i][axis];
        }
        if (curve.f == 0) {
            return t <= 4 ? 128 * ((4 - t) * p[0] + t * p[1]) : 128 * ((8 - t) * p[1] + (t - 4) * p[3]);
        }
        // by halving a line again and again, as de Casteljau did
        for (int round = 3; round > 0; round--) {
            for (int i = 0; i < round; i++) {
                p[i] = (8 - t) * p[i] + t * p[i + 1];
            }
        }
        return p[0];
    }

    private boolean isNear(Curve curve, int t, int error) {
        int x = placeOf(curve, t, 0);
        int y = placeOf(curve, t, 1);
        for (int k = curve.first - 1; k < curve.first + curve.length; k++) {
            if (isNearLine(x, y, at(k), at(k + 1), error)) {
                return true;
            }
        }
        return false;
    }

    private static boolean isNearLine(int x, int y, int[] a, int[] b, int error) {
        BigInteger dx = BigInteger.valueOf(b[0] - a[0]);
        BigInteger dy = BigInteger.valueOf(b[1] - a[1]);
        BigInteger unit = BigInteger.valueOf(16384);
        BigInteger square = dx.multiply(dx).add(dy.multiply(dy));
        BigInteger vx = BigInteger.valueOf(x - 16384L * a[0]);
        BigInteger vy = BigInteger.valueOf(y - 16384L * a[1]);
        BigInteger along = vx.multiply(dx).add(vy.multiply(dy)).max(BigInteger.ZERO).min(unit.multiply(square));
        BigInteger ex = vx.multiply(square).subtract(dx.multiply(along));
        BigInteger ey = vy.multiply(square).subtract(dy.multiply(along));
        BigInteger reach = BigInteger.valueOf(512L * error).multiply(square);
        return ex.multiply(ex).add(ey.multiply(ey)).compareTo(reach.multiply(reach)) <= 0;
    }

    int curve(int k, int what) {
        state(curves != null);
        exists(k, curves.size());
        Curve curve = curves.get(k);
        switch (what) {
            case 0: return curve.first;
            case 1: return curve.length;
            case 2: return curve.f;
            default: return what < 3 || what > 10 ? -1 : curve.hand[(what - 3) / 2][(what - 3) % 2];
        }
    }

    int place(int k, int t, int axis) {
        state(curves != null);
        exists(k, curves.size());
        told(t >= 0 && t <= 8 && (axis == 0 || axis == 1));
        return placeOf(curves.get(k), t, axis);
    }

    boolean near(int k, int t, int error) {
        state(curves != null);
        exists(k, curves.size());
        told(t >= 0 && t <= 8 && error >= 0 && error <= 64);
        return isNear(curves.get(k), t, error);
    }

    int told(int what) {
        int coloured = 0;
        for (int[] column : colours) {
            for (int colour : column) {
                coloured += colour > 0 ? 1 : 0;
            }
        }
        switch (what) {
            case 0: return width;
            case 1: return height;
            case 2: return coloured;
            case 3: return outlines == null ? 0 : outlines.size();
            case 4: return corners == null ? 0 : corners.size();
            case 5: return corners == null ? 0 : cost;
            case 6: return curves == null ? 0 : curves.size();
            default: return -1;
        }
    }

    void clear() {
        for (int[] column : colours) {
            Arrays.fill(column, 0);
        }
        outlines = null;
        corners = null;
        curves = null;
    }

    private void sample(int x, int y) {
        if (x < 0 || y < 0 || x >= width || y >= height) {
            throw new IndexOutOfBoundsException();
        }
    }

    private void traced() {
        state(outlines != null);
    }

    private Outline outline(int o) {
        exists(o, outlines.size());
        return outlines.get(o);
    }

    private static void exists(int index, int count) {
        if (index < 0 || index >= count) {
            throw new IndexOutOfBoundsException();
        }
    }

    private static void state(boolean holds) {
        if (!holds) {
            throw new IllegalStateException();
        }
    }

    private static void told(boolean holds) {
        if (!holds) {
            throw new IllegalArgumentException();
        }
    }
}
