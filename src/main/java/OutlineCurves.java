import java.util.Arrays;

/**
 * Traces pictures of few colours: outlines of layers, the polygon of an outline, curves of a polygon.
 *
 * All rows are made once, in the constructors: no call makes an object but the exception that it throws.
 */
public final class OutlineCurves {
    public static final int NONE = -1;

    private static final int TOP_COLOUR = 7;
    private static final int TURNS = 4;
    private static final int TOP_SPECK = 256;
    private static final int LONGEST_PIECE = 24;
    private static final int TOP_STIFFNESS = 8;
    private static final int TOP_SHARPNESS = 65;
    private static final int TOP_ERROR = 64;
    private static final int LAST_PLACE = 8;

    private final Picture picture;
    private final Outlines outlines;
    private final Polygon shape;
    private final CurveRow row;

    public OutlineCurves(int width, int height) {
        picture = new Picture(width, height);
        outlines = new Outlines(picture);
        shape = new Polygon(outlines, picture.sides());
        row = new CurveRow(shape, picture.sides());
    }

    public int put(int x, int y, int n, int colour) throws IndexOutOfBoundsException, IllegalArgumentException {
        requireSample(x, y);
        requireRange(n, 1, Integer.MAX_VALUE);
        requireRange(colour, 0, TOP_COLOUR);
        int changed = picture.paint(x, y, n, colour);
        if (changed > 0) {
            forgetOutlines();
        }
        return changed;
    }

    public int trace(int turn, int speck) throws IllegalArgumentException {
        requireRange(turn, 0, TURNS - 1);
        requireRange(speck, 0, TOP_SPECK);
        forgetOutlines();
        for (int layer = 1; layer <= TOP_COLOUR; layer++) {
            outlines.addLayer(layer, turn, speck);
        }
        return outlines.count;
    }

    public int about(int outline, int what) throws IllegalStateException, IndexOutOfBoundsException {
        requireTraced();
        requireIndex(outline, outlines.count);
        switch (what) {
            case 0:
                return outlines.length(outline);
            case 1:
                return outlines.layers[outline];
            case 2:
                return outlines.areas[outline];
            case 3:
                return outlines.outlineRound(outline);
            default:
                return NONE;
        }
    }

    public int point(int outline, int i, int axis)
            throws IllegalStateException, IndexOutOfBoundsException, IllegalArgumentException {
        requirePoint(outline, i);
        requireRange(axis, 0, 1);
        int at = outlines.begins[outline] + i;
        return axis == 0 ? outlines.xs[at] : outlines.ys[at];
    }

    public int covered(int x, int y) throws IllegalStateException, IndexOutOfBoundsException {
        requireTraced();
        requireSample(x, y);
        return outlines.greatestLayerAt(x, y);
    }

    public int piece(int outline, int i, int k, int stiffness)
            throws IllegalStateException, IndexOutOfBoundsException, IllegalArgumentException {
        requirePoint(outline, i);
        requireRange(k, 1, LONGEST_PIECE);
        requireRange(stiffness, 1, TOP_STIFFNESS);
        return outlines.costOf(outline, i, k, stiffness);
    }

    public int polygon(int outline, int stiffness)
            throws IllegalStateException, IndexOutOfBoundsException, IllegalArgumentException {
        requireTraced();
        requireIndex(outline, outlines.count);
        requireRange(stiffness, 1, TOP_STIFFNESS);
        row.forget();
        return shape.find(outline, stiffness);
    }

    public int corner(int k, int what) throws IllegalStateException, IndexOutOfBoundsException {
        requirePolygon();
        requireIndex(k, shape.count);
        switch (what) {
            case 0:
                return shape.points[k];
            case 1:
                return shape.xs[k];
            case 2:
                return shape.ys[k];
            case 3:
                return shape.angles[k];
            case 4:
                return shape.turns[k];
            default:
                return NONE;
        }
    }

    public int curves(int sharpness, int error) throws IllegalStateException, IllegalArgumentException {
        requirePolygon();
        requireRange(sharpness, 0, TOP_SHARPNESS);
        requireRange(error, 0, TOP_ERROR);
        return row.make(sharpness, error);
    }

    public int curve(int k, int what) throws IllegalStateException, IndexOutOfBoundsException {
        requireCurve(k);
        switch (what) {
            case 0:
                return row.firsts[k];
            case 1:
                return row.lengths[k];
            case 2:
                return row.pulls[k];
            default:
                return what >= 3 && what <= 10 ? row.ordinate(k, what - 3) : NONE;
        }
    }

    public int place(int k, int t, int axis)
            throws IllegalStateException, IndexOutOfBoundsException, IllegalArgumentException {
        requireCurve(k);
        requireRange(t, 0, LAST_PLACE);
        requireRange(axis, 0, 1);
        return row.placeAt(k, t, axis);
    }

    public boolean near(int k, int t, int error)
            throws IllegalStateException, IndexOutOfBoundsException, IllegalArgumentException {
        requireCurve(k);
        requireRange(t, 0, LAST_PLACE);
        requireRange(error, 0, TOP_ERROR);
        return row.isNear(k, t, error);
    }

    public int told(int what) {
        switch (what) {
            case 0:
                return picture.width;
            case 1:
                return picture.height;
            case 2:
                return picture.coloured();
            case 3:
                return outlines.count;
            case 4:
                return shape.count;
            case 5:
                return shape.cost;
            case 6:
                return row.count;
            default:
                return NONE;
        }
    }

    public void clear() {
        picture.wipe();
        forgetOutlines();
    }

    private void forgetOutlines() {
        outlines.forget();
        shape.forget();
        row.forget();
    }

    private void requireSample(int x, int y) {
        if (!picture.has(x, y)) {
            throw new IndexOutOfBoundsException("there is no such sample");
        }
    }

    private void requireTraced() {
        if (!outlines.traced) {
            throw new IllegalStateException("nothing was traced");
        }
    }

    private void requirePoint(int outline, int i) {
        requireTraced();
        requireIndex(outline, outlines.count);
        requireIndex(i, outlines.length(outline));
    }

    private void requirePolygon() {
        if (shape.count == 0) {
            throw new IllegalStateException("there is no polygon at hand");
        }
    }

    private void requireCurve(int k) {
        if (row.count == 0) {
            throw new IllegalStateException("there are no curves");
        }
        requireIndex(k, row.count);
    }

    private static void requireIndex(int index, int count) {
        if (index < 0 || index >= count) {
            throw new IndexOutOfBoundsException("there is no such outline, point, corner or curve");
        }
    }

    private static void requireRange(int number, int least, int most) {
        if (number < least || number > most) {
            throw new IllegalArgumentException("a number is none that is told");
        }
    }

    /** The samples and their colours. */
    private static final class Picture {
        private static final int LARGEST = 16;

        final int width;
        final int height;
        private final byte[] colours;

        Picture(int width, int height) {
            this.width = Math.max(1, Math.min(LARGEST, width));
            this.height = Math.max(1, Math.min(LARGEST, height));
            colours = new byte[this.width * this.height];
        }

        /** How many sides samples have in all: no layer's outlines can have more. */
        int sides() {
            return width * (height + 1) + height * (width + 1);
        }

        boolean has(int x, int y) {
            return x >= 0 && x < width && y >= 0 && y < height;
        }

        boolean isInside(int x, int y, int layer) {
            return has(x, y) && colours[y * width + x] >= layer;
        }

        /** Expects a sample of the picture; answers how many samples had another colour. */
        int paint(int x, int y, int n, int colour) {
            int from = y * width + x;
            int end = from + Math.min(n, width - x);
            int changed = 0;
            for (int i = from; i < end; i++) {
                if (colours[i] != colour) {
                    colours[i] = (byte) colour;
                    changed++;
                }
            }
            return changed;
        }

        void wipe() {
            Arrays.fill(colours, (byte) 0);
        }

        int coloured() {
            int found = 0;
            for (int i = 0; i < colours.length; i++) {
                if (colours[i] > 0) {
                    found++;
                }
            }
            return found;
        }
    }

    /** The outlines of all layers, their points in one row, one outline's behind those of another. */
    private static final class Outlines {
        private static final int RIGHTWARD = 0;
        private static final int LEFTWARD = 2;
        private static final int[] STEP_X = {1, 0, -1, 0};
        private static final int[] STEP_Y = {0, 1, 0, -1};
        /* The sample before a point and to the right, for each direction; the one to the left is that
           of the direction to the left. */
        private static final int[] AHEAD_X = {0, -1, -1, 0};
        private static final int[] AHEAD_Y = {0, 0, -1, -1};
        private static final int ALL_DIRECTIONS = 15;
        private static final int LEAST_SIDES = 4;

        private final Picture picture;
        final byte[] xs;
        final byte[] ys;
        final int[] begins;
        final byte[] layers;
        final int[] areas;
        /* Whether the upper side of a sample is in an outline of the layer at work, 1 or 0. */
        private final byte[] walked;
        int count;
        boolean traced;

        Outlines(Picture picture) {
            this.picture = picture;
            int points = TOP_COLOUR * picture.sides();
            int most = points / LEAST_SIDES;
            xs = new byte[points];
            ys = new byte[points];
            begins = new int[most + 1];
            layers = new byte[most];
            areas = new int[most];
            walked = new byte[picture.width * picture.height];
        }

        void forget() {
            traced = false;
            count = 0;
        }

        int length(int outline) {
            return begins[outline + 1] - begins[outline];
        }

        /** Expects that the layers below have been added. */
        void addLayer(int layer, int turn, int speck) {
            traced = true;
            Arrays.fill(walked, (byte) 0);
            for (int y = 0; y < picture.height; y++) {
                for (int x = 0; x < picture.width; x++) {
                    if (beginsOutline(x, y, layer) && count < layers.length) {
                        walk(x, y, layer, turn);
                        // a speck's place in the rows is taken by the next outline
                        if (Math.abs(areas[count]) > speck) {
                            count++;
                        }
                    }
                }
            }
        }

        private boolean beginsOutline(int x, int y, int layer) {
            return picture.isInside(x, y, layer)
                    && !picture.isInside(x, y - 1, layer)
                    && walked[y * picture.width + x] == 0;
        }

        private void walk(int firstX, int firstY, int layer, int turn) {
            int area = 0;
            int x = firstX;
            int y = firstY;
            int direction = RIGHTWARD;
            int at = begins[count];
            boolean open = true;
            while (open && at < xs.length) {
                xs[at] = (byte) x;
                ys[at] = (byte) y;
                at++;
                if (direction == RIGHTWARD && picture.has(x, y)) {
                    walked[y * picture.width + x] = 1;
                    area -= y;
                } else if (direction == LEFTWARD) {
                    area += y;
                }
                x += STEP_X[direction];
                y += STEP_Y[direction];
                direction = directionFrom(x, y, direction, layer, turn);
                open = x != firstX || y != firstY || direction != RIGHTWARD;
            }
            layers[count] = (byte) layer;
            areas[count] = area;
            begins[count + 1] = at;
        }

        private int directionFrom(int x, int y, int direction, int layer, int turn) {
            int toLeft = (direction + 3) & 3;
            int toRight = (direction + 1) & 3;
            boolean rightInside = picture.isInside(x + AHEAD_X[direction], y + AHEAD_Y[direction], layer);
            boolean leftInside = picture.isInside(x + AHEAD_X[toLeft], y + AHEAD_Y[toLeft], layer);
            if (rightInside) {
                return leftInside ? toLeft : direction;
            }
            return leftInside && turnsLeft(x, y, layer, turn) ? toLeft : toRight;
        }

        private boolean turnsLeft(int x, int y, int layer, int turn) {
            switch (turn) {
                case 0:
                    return true;
                case 1:
                    return false;
                case 2:
                    return insideRound(x, y, layer) <= 8;
                default:
                    return ((x + y) & 1) == 0;
            }
        }

        private int insideRound(int x, int y, int layer) {
            int inside = 0;
            for (int row = y - 2; row < y + 2; row++) {
                for (int column = x - 2; column < x + 2; column++) {
                    if (picture.isInside(column, row, layer)) {
                        inside++;
                    }
                }
            }
            return inside;
        }

        /** What an outline lies in; looked for at each question, since few outlines are asked about. */
        int outlineRound(int outline) {
            boolean hole = areas[outline] < 0;
            int x = xs[begins[outline]];
            int y = ys[begins[outline]] - (hole ? 0 : 1);
            int found = NONE;
            int least = Integer.MAX_VALUE;
            for (int other = 0; other < count; other++) {
                int area = Math.abs(areas[other]);
                if (layers[other] == layers[outline] && (areas[other] < 0) != hole
                        && area < least && (uprightsLeftOf(other, x, y) & 1) == 1) {
                    found = other;
                    least = area;
                }
            }
            return found;
        }

        int greatestLayerAt(int x, int y) {
            for (int layer = TOP_COLOUR; layer > 0; layer--) {
                int uprights = 0;
                for (int outline = 0; outline < count; outline++) {
                    if (layers[outline] == layer) {
                        uprights += uprightsLeftOf(outline, x, y);
                    }
                }
                if ((uprights & 1) == 1) {
                    return layer;
                }
            }
            return 0;
        }

        private int uprightsLeftOf(int outline, int x, int y) {
            int end = begins[outline + 1];
            int before = end - 1;
            int found = 0;
            for (int at = begins[outline]; at < end; at++) {
                if (xs[at] <= x && xs[at] == xs[before] && Math.min(ys[at], ys[before]) == y) {
                    found++;
                }
                before = at;
            }
            return found;
        }

        /** The cost of the piece from point i by k steps, NONE if it is not straight. */
        int costOf(int outline, int i, int k, int stiffness) {
            int begin = begins[outline];
            int end = begins[outline + 1];
            int from = begin + i;
            int to = from;
            int directions = 0;
            for (int step = 0; step < k; step++) {
                int next = to + 1 < end ? to + 1 : begin;
                directions |= directionBit(to, next);
                to = next;
            }
            if (directions == ALL_DIRECTIONS) {
                return NONE;
            }
            int dx = xs[to] - xs[from];
            int dy = ys[to] - ys[from];
            int bound = stiffness * Math.max(Math.abs(dx), Math.abs(dy));
            int cost = 0;
            int at = from;
            for (int step = 1; step < k; step++) {
                at = at + 1 < end ? at + 1 : begin;
                int cross = Math.abs(dx * (ys[at] - ys[from]) - dy * (xs[at] - xs[from]));
                if (2 * cross > bound) {
                    return NONE;
                }
                cost += cross;
            }
            return cost;
        }

        private int directionBit(int from, int to) {
            if (ys[from] == ys[to]) {
                return xs[to] > xs[from] ? 1 : 2;
            }
            return ys[to] > ys[from] ? 4 : 8;
        }
    }

    /** The polygon at hand; it has no corners while there is none. */
    private static final class Polygon {
        /* A row of pieces is weighed by one number, PIECE for each piece and its cost beside; all costs
           of a polygon stay below PIECE, as at each of at most 544 points a cross product is at most 96. */
        private static final int PIECE = 1 << 18;
        private static final int UNREACHED = 1 << 30;
        private static final int RIGHT_ANGLE = 64;
        private static final int FEWEST_CORNERS = 3;

        private final Outlines outlines;
        /* The cost of the piece from point i by k steps at i * LONGEST_PIECE + k - 1. */
        private final int[] costs;
        /* The least weight from a point round to the first corner, by any row of pieces. */
        private final int[] rest;
        /* The same by two pieces at least, for the points where a second corner may be. */
        private final int[] restByTwo;
        final int[] points;
        final int[] xs;
        final int[] ys;
        final int[] angles;
        final int[] turns;
        int count;
        int cost;

        Polygon(Outlines outlines, int most) {
            this.outlines = outlines;
            costs = new int[most * LONGEST_PIECE];
            rest = new int[most];
            restByTwo = new int[most];
            points = new int[most];
            xs = new int[most];
            ys = new int[most];
            angles = new int[most];
            turns = new int[most];
        }

        void forget() {
            count = 0;
            cost = 0;
        }

        int find(int outline, int stiffness) {
            int n = Math.min(outlines.length(outline), points.length);
            weighPieces(outline, n, stiffness);
            // the last piece reaches round to the first corner, which so lies among the first points
            int starts = Math.min(LONGEST_PIECE, n - FEWEST_CORNERS + 1);
            int first = 0;
            int least = UNREACHED;
            for (int start = 0; start < starts; start++) {
                int weight = weighFrom(start, n);
                if (weight < least) {
                    least = weight;
                    first = start;
                }
            }
            weighFrom(first, n);
            follow(first, n, least);
            measure(outline);
            cost = least & (PIECE - 1);
            return count;
        }

        private void weighPieces(int outline, int n, int stiffness) {
            for (int i = 0; i < n; i++) {
                for (int k = 1; k <= LONGEST_PIECE; k++) {
                    costs[i * LONGEST_PIECE + k - 1] = outlines.costOf(outline, i, k, stiffness);
                }
            }
        }

        private int pieceCost(int i, int k) {
            return k < 1 || k > LONGEST_PIECE ? NONE : costs[i * LONGEST_PIECE + k - 1];
        }

        /** The least weight of a polygon whose first corner is at a point. */
        private int weighFrom(int first, int n) {
            for (int i = n - 1; i > first; i--) {
                int closing = pieceCost(i, n + first - i);
                int least = leastThrough(rest, i, n);
                rest[i] = closing == NONE ? least : Math.min(least, PIECE + closing);
            }
            int end = Math.min(first + LONGEST_PIECE + 1, n);
            for (int i = first + 1; i < end; i++) {
                restByTwo[i] = leastThrough(rest, i, n);
            }
            return leastThrough(restByTwo, first, n);
        }

        private int leastThrough(int[] onward, int i, int n) {
            int least = UNREACHED;
            int end = Math.min(i + LONGEST_PIECE + 1, n);
            for (int next = i + 1; next < end; next++) {
                int piece = pieceCost(i, next - i);
                if (piece != NONE) {
                    least = Math.min(least, PIECE + piece + onward[next]);
                }
            }
            return least;
        }

        /** Takes the earliest corner that keeps the weight, again and again; expects the rows weighed from first. */
        private void follow(int first, int n, int weight) {
            points[0] = first;
            count = 1;
            int[] onward = restByTwo;
            int left = weight;
            int next = earliestThrough(onward, first, n, left);
            while (next != NONE && count < n) {
                points[count] = next;
                count++;
                left = onward[next];
                onward = rest;
                next = earliestThrough(onward, next, n, left);
            }
        }

        private int earliestThrough(int[] onward, int i, int n, int weight) {
            int end = Math.min(i + LONGEST_PIECE + 1, n);
            for (int next = i + 1; next < end; next++) {
                int piece = pieceCost(i, next - i);
                if (piece != NONE && PIECE + piece + onward[next] == weight) {
                    return next;
                }
            }
            return NONE;
        }

        private void measure(int outline) {
            int begin = outlines.begins[outline];
            for (int k = 0; k < count; k++) {
                xs[k] = outlines.xs[begin + points[k]];
                ys[k] = outlines.ys[begin + points[k]];
            }
            for (int k = 0; k < count; k++) {
                measureCorner(k);
            }
        }

        private void measureCorner(int k) {
            int before = cornerBeside(k, -1);
            int behind = cornerBeside(k, 1);
            int inX = xs[k] - xs[before];
            int inY = ys[k] - ys[before];
            int outX = xs[behind] - xs[k];
            int outY = ys[behind] - ys[k];
            int inner = inX * outX + inY * outY;
            int cross = inX * outY - inY * outX;
            angles[k] = inner <= 0 ? RIGHT_ANGLE : Math.min(RIGHT_ANGLE - 1, 16 * Math.abs(cross) / inner);
            turns[k] = Integer.compare(cross, 0);
        }

        /** The corner by some steps from another one, round if need be. */
        int cornerBeside(int k, int steps) {
            return count < 1 ? 0 : Math.floorMod(k + steps, count);
        }
    }

    /** The curves of the polygon at hand; there are none while it has no curves. */
    private static final class CurveRow {
        private static final int MOST_JOINED = 6;
        private static final int TOP_PULL = 64;
        private static final int SINGLE_PULL = 8;
        /* Places are told in 1 / PLACE_UNIT of a side, errors in 1 / 32. */
        private static final int PLACE_UNIT = 16384;
        private static final int ERROR_UNIT = PLACE_UNIT / 32;

        private final Polygon polygon;
        /* By the number of corners from the beginning: fewest curves from there on, and the first of them. */
        private final int[] fewest;
        private final int[] takenLengths;
        private final int[] takenPulls;
        final int[] firsts;
        final int[] lengths;
        /* What the document calls f, 0 at a sharp corner. */
        final int[] pulls;
        /* The four points of the curve that is looked at. */
        private final int[] handX = new int[4];
        private final int[] handY = new int[4];
        int count;

        CurveRow(Polygon polygon, int most) {
            this.polygon = polygon;
            fewest = new int[most + 1];
            takenLengths = new int[most];
            takenPulls = new int[most];
            firsts = new int[most];
            lengths = new int[most];
            pulls = new int[most];
        }

        void forget() {
            count = 0;
        }

        int make(int sharpness, int error) {
            int beginning = firstSharp(sharpness);
            fewest[polygon.count] = 0;
            for (int at = polygon.count - 1; at >= 0; at--) {
                choose(at, polygon.cornerBeside(beginning, at), sharpness, error);
            }
            count = 0;
            for (int at = 0; at < polygon.count; at += Math.max(1, takenLengths[at])) {
                firsts[count] = polygon.cornerBeside(beginning, at);
                lengths[count] = takenLengths[at];
                pulls[count] = takenPulls[at];
                count++;
            }
            return count;
        }

        private int firstSharp(int sharpness) {
            for (int k = 0; k < polygon.count; k++) {
                if (polygon.angles[k] >= sharpness) {
                    return k;
                }
            }
            return 0;
        }

        /** Long curves are tried first, so that of equally few the one with the most corners stays. */
        private void choose(int at, int first, int sharpness, int error) {
            int singlePull = polygon.angles[first] >= sharpness ? 0 : SINGLE_PULL + polygon.angles[first] / 8;
            int least = Integer.MAX_VALUE;
            for (int length = joinable(at, first, sharpness); length > 0; length--) {
                int all = 1 + fewest[at + length];
                if (all < least) {
                    int pull = length == 1 ? singlePull : leastPull(first, length, error);
                    if (length == 1 || pull > 0) {
                        takenLengths[at] = length;
                        takenPulls[at] = pull;
                        least = all;
                    }
                }
            }
            fewest[at] = least;
        }

        /** How many corners from one on may be in one curve, by their turns and up to the end of the row. */
        private int joinable(int at, int first, int sharpness) {
            int turn = polygon.turns[first];
            if (turn == 0 || polygon.angles[first] >= sharpness) {
                return 1;
            }
            int most = Math.min(MOST_JOINED, polygon.count - at);
            for (int length = 1; length < most; length++) {
                int k = polygon.cornerBeside(first, length);
                if (polygon.turns[k] != turn || polygon.angles[k] >= sharpness) {
                    return length;
                }
            }
            return most;
        }

        /** The least f of a joined curve, 0 if there is no such curve. */
        private int leastPull(int first, int length, int error) {
            for (int pull = 1; pull <= TOP_PULL; pull++) {
                layHand(first, length, pull);
                if (allPlacesNear(first, length, error)) {
                    return pull;
                }
            }
            return 0;
        }

        private boolean allPlacesNear(int first, int length, int error) {
            for (int t = 1; t < LAST_PLACE; t++) {
                if (!nearLines(first, length, cubicAt(handX, t), cubicAt(handY, t), error)) {
                    return false;
                }
            }
            return true;
        }

        private void layHand(int first, int length, int pull) {
            int before = polygon.cornerBeside(first, -1);
            int last = polygon.cornerBeside(first, length - 1);
            int behind = polygon.cornerBeside(first, length);
            layOn(handX, polygon.xs, pull, before, first, last, behind);
            layOn(handY, polygon.ys, pull, before, first, last, behind);
        }

        private static void layOn(int[] hand, int[] at, int pull, int before, int first, int last, int behind) {
            hand[0] = 16 * (at[before] + at[first]);
            hand[3] = 16 * (at[last] + at[behind]);
            if (pull == 0) {
                hand[1] = 32 * at[first];
                hand[2] = 32 * at[first];
            } else {
                hand[1] = hand[0] + pull * (at[first] - at[before]);
                hand[2] = hand[3] - pull * (at[behind] - at[last]);
            }
        }

        private static int cubicAt(int[] hand, int t) {
            int back = LAST_PLACE - t;
            return back * back * back * hand[0] + 3 * back * back * t * hand[1]
                    + 3 * back * t * t * hand[2] + t * t * t * hand[3];
        }

        private static int sharpAt(int[] hand, int t) {
            int way = t <= 4 ? (4 - t) * hand[0] + t * hand[1] : (8 - t) * hand[1] + (t - 4) * hand[3];
            return 128 * way;
        }

        private boolean nearLines(int first, int length, int x, int y, int error) {
            long reach = (long) ERROR_UNIT * error;
            int from = polygon.cornerBeside(first, -1);
            for (int line = 0; line <= length; line++) {
                int to = polygon.cornerBeside(first, line);
                if (nearLine(x, y, from, to, reach)) {
                    return true;
                }
                from = to;
            }
            return false;
        }

        private boolean nearLine(int x, int y, int from, int to, long reach) {
            long dx = polygon.xs[to] - polygon.xs[from];
            long dy = polygon.ys[to] - polygon.ys[from];
            long squared = dx * dx + dy * dy;
            long qx = x - (long) PLACE_UNIT * polygon.xs[from];
            long qy = y - (long) PLACE_UNIT * polygon.ys[from];
            long along = qx * dx + qy * dy;
            if (along > 0 && along < PLACE_UNIT * squared) {
                long aside = qx * dy - qy * dx;
                return aside * aside <= reach * reach * squared;
            }
            if (along > 0) {
                qx -= PLACE_UNIT * dx;
                qy -= PLACE_UNIT * dy;
            }
            return qx * qx + qy * qy <= reach * reach;
        }

        /** Number 0 .. 7 of x and y of a curve's points in turn. */
        int ordinate(int k, int number) {
            layHand(firsts[k], lengths[k], pulls[k]);
            int i = (number >> 1) & 3;
            return (number & 1) == 0 ? handX[i] : handY[i];
        }

        int placeAt(int k, int t, int axis) {
            layHand(firsts[k], lengths[k], pulls[k]);
            int[] hand = axis == 0 ? handX : handY;
            return pulls[k] == 0 ? sharpAt(hand, t) : cubicAt(hand, t);
        }

        boolean isNear(int k, int t, int error) {
            return nearLines(firsts[k], lengths[k], placeAt(k, t, 0), placeAt(k, t, 1), error);
        }
    }
}
