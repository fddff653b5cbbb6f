import java.util.Random;

/**
 * What holds of all answers together, whatever the picture: the class is asked about itself and the picture that was
 * put, and no second telling of the document is needed. An object gets more than the 512 calls that are promised:
 * the class keeps no count of them.
 */
public final class WholesTest extends Due {
    private static final int PICTURES = 150;

    private final Random random;
    private final int width;
    private final int height;
    private final int[][] colours;
    private final OutlineCurves x;

    private WholesTest(long seed) {
        random = new Random(seed);
        width = 1 + random.nextInt(16);
        height = 1 + random.nextInt(16);
        colours = new int[width][height];
        x = new OutlineCurves(width, height);
        paint();
    }

    public static void main(String[] args) {
        for (long seed = 1; seed <= PICTURES; seed++) {
            WholesTest one = new WholesTest(seed);
            for (int turn = 0; turn < 4; turn++) {
                one.x.trace(turn, 0);
                one.coversThePicture(seed, turn);
                one.layersAddUp(seed, turn);
                one.sidesAreWalkedOnce(seed, turn);
                one.outlinesLieInOneAnother(seed, turn);
                one.polygonsAndCurves(seed, turn);
            }
            one.specksAreLeftOut(seed);
        }
        end();
    }

    /** Discs with some noise: smooth outlines, holes, specks and outlines that touch themselves. */
    private void paint() {
        for (int disc = random.nextInt(6); disc >= 0; disc--) {
            int cx = random.nextInt(width);
            int cy = random.nextInt(height);
            int r = 1 + random.nextInt(10);
            int colour = random.nextInt(8);
            for (int column = 0; column < width; column++) {
                for (int row = 0; row < height; row++) {
                    if ((column - cx) * (column - cx) + (row - cy) * (row - cy) <= r * r) {
                        colours[column][row] = colour;
                    }
                }
            }
        }
        int noise = random.nextInt(3) == 0 ? 40 : random.nextInt(5);
        for (int column = 0; column < width; column++) {
            for (int row = 0; row < height; row++) {
                if (random.nextInt(100) < noise) {
                    colours[column][row] = random.nextInt(8);
                }
                x.put(column, row, 1, colours[column][row]);
            }
        }
    }

    private boolean inside(int column, int row, int layer) {
        return column >= 0 && row >= 0 && column < width && row < height && colours[column][row] >= layer;
    }

    private void coversThePicture(long seed, int turn) {
        sentence("layers that cover one another tell the picture again, picture " + seed + ", turn " + turn);
        for (int column = 0; column < width; column++) {
            for (int row = 0; row < height; row++) {
                due("covered(" + column + ", " + row + ")", x.covered(column, row), colours[column][row]);
            }
        }
    }

    private void layersAddUp(long seed, int turn) {
        sentence("AREA, as many points as sides, all layers, picture " + seed + ", turn " + turn);
        int[] areas = new int[8];
        int[] points = new int[8];
        int before = 0;
        for (int o = 0; o < x.told(3); o++) {
            int layer = x.about(o, 1);
            due("a layer behind that of the outline before", layer >= before, true);
            before = layer;
            areas[layer] += x.about(o, 2);
            points[layer] += x.about(o, 0);
        }
        for (int layer = 1; layer <= 7; layer++) {
            int samples = 0;
            int sides = 0;
            for (int column = 0; column <= width; column++) {
                for (int row = 0; row <= height; row++) {
                    boolean here = inside(column, row, layer);
                    samples += here ? 1 : 0;
                    sides += here != inside(column - 1, row, layer) ? 1 : 0;
                    sides += here != inside(column, row - 1, layer) ? 1 : 0;
                }
            }
            due("areas of layer " + layer, areas[layer], samples);
            due("points of layer " + layer, points[layer], sides);
        }
    }

    private void sidesAreWalkedOnce(long seed, int turn) {
        sentence("the inside one to the right, from point to point, picture " + seed + ", turn " + turn);
        boolean[][][] walked = new boolean[8][(width + 1) * (height + 1)][4];
        for (int o = 0; o < x.told(3); o++) {
            int layer = x.about(o, 1);
            int all = x.about(o, 0);
            for (int i = 0; i < all; i++) {
                int px = x.point(o, i, 0);
                int py = x.point(o, i, 1);
                int dx = x.point(o, (i + 1) % all, 0) - px;
                int dy = x.point(o, (i + 1) % all, 1) - py;
                due("length of a side", Math.abs(dx) + Math.abs(dy), 1);
                // the middle of the side, doubled, and half a sample to its right and to its left
                int mx = 2 * px + dx;
                int my = 2 * py + dy;
                due("sample to the right", inside((mx - dy) >> 1, (my + dx) >> 1, layer), true);
                due("sample to the left", inside((mx + dy) >> 1, (my - dx) >> 1, layer), false);
                int direction = dx != 0 ? 1 + dx >> 1 : 2 + (1 + dy >> 1);
                due("walked before", walked[layer][py * (width + 1) + px][direction], false);
                walked[layer][py * (width + 1) + px][direction] = true;
            }
        }
    }

    private void outlinesLieInOneAnother(long seed, int turn) {
        sentence("What it LIES IN, picture " + seed + ", turn " + turn);
        for (int o = 0; o < x.told(3); o++) {
            int in = x.about(o, 3);
            boolean hole = x.about(o, 2) < 0;
            if (hole) {
                due("a hole lies in some outline", in >= 0, true);
            }
            if (in >= 0) {
                due("layer", x.about(in, 1), x.about(o, 1));
                due("one is a hole, the other is none", x.about(in, 2) < 0, !hole);
                due("the outer one is larger", Math.abs(x.about(in, 2)) > Math.abs(x.about(o, 2)), true);
            }
        }
    }

    private void specksAreLeftOut(long seed) {
        sentence("A SPECK is left out, picture " + seed);
        for (int turn = 0; turn < 4; turn++) {
            int all = x.trace(turn, 0);
            int[] areas = new int[all];
            for (int o = 0; o < all; o++) {
                areas[o] = x.about(o, 2);
            }
            int bound = 1 + random.nextInt(12);
            int kept = x.trace(turn, bound);
            int next = 0;
            for (int area : areas) {
                if (Math.abs(area) > bound) {
                    due("area", next < kept ? x.about(next, 2) : 0, area);
                    next++;
                }
            }
            due("trace(" + turn + ", " + bound + ")", kept, next);
        }
    }

    private void polygonsAndCurves(long seed, int turn) {
        for (int tries = 0; tries < 3 && x.told(3) > 0; tries++) {
            int o = random.nextInt(x.told(3));
            int stiffness = 1 + random.nextInt(8);
            sentence("THE POLYGON, picture " + seed + ", turn " + turn + ", polygon(" + o + ", " + stiffness + ")");
            due("told(4)", x.polygon(o, stiffness), x.told(4));
            polygonIsOfStraightPieces(o, stiffness);
            int sharpness = random.nextInt(3) == 0 ? 65 : random.nextInt(66);
            int error = random.nextInt(65);
            sentence("CURVES, picture " + seed + ", turn " + turn + ", polygon(" + o + ", " + stiffness + "), curves("
                    + sharpness + ", " + error + ")");
            due("told(6)", x.curves(sharpness, error), x.told(6));
            curvesGoRound(sharpness);
            for (int k = 0; k < x.told(6); k++) {
                curvesMeet(k);
                placesLie(k, error);
            }
        }
    }

    private void polygonIsOfStraightPieces(int o, int stiffness) {
        int all = x.told(4);
        int points = x.about(o, 0);
        int sum = 0;
        due("three corners at least", all >= 3, true);
        for (int k = 0; k < all; k++) {
            int from = x.corner(k, 0);
            int to = k + 1 < all ? x.corner(k + 1, 0) : x.corner(0, 0) + points;
            due("a corner's x", x.corner(k, 1), x.point(o, from, 0));
            due("a corner's y", x.corner(k, 2), x.point(o, from, 1));
            due("steps of piece " + k, to - from >= 1 && to - from <= 24, true);
            int cost = x.piece(o, from, Math.max(1, Math.min(24, to - from)), stiffness);
            due("piece " + k + " is straight", cost != OutlineCurves.NONE, true);
            sum += cost;
            due("two pieces are one", all > 3 && mayBeOne(o, k, stiffness), false);
        }
        due("told(5)", x.told(5), sum);
    }

    /** With such a piece the polygon would have a corner less. */
    private boolean mayBeOne(int o, int k, int stiffness) {
        int points = x.about(o, 0);
        int from = x.corner(k, 0);
        int to = x.corner((k + 2) % x.told(4), 0);
        int steps = Math.floorMod(to - from, points);
        return steps <= 24 && x.piece(o, from, steps, stiffness) != OutlineCurves.NONE;
    }

    private void curvesGoRound(int sharpness) {
        int all = x.told(4);
        int first = x.curve(0, 0);
        int corners = 0;
        for (int k = 0; k < x.told(6); k++) {
            due("first corner of curve " + k, x.curve(k, 0), (first + corners) % all);
            int length = x.curve(k, 1);
            due("corners of curve " + k, length >= 1 && length <= 6, true);
            for (int i = 0; i < length; i++) {
                int corner = (x.curve(k, 0) + i) % all;
                boolean sharp = x.corner(corner, 3) >= sharpness;
                due("sharp ones in one of their own, f 0", sharp, length == 1 && x.curve(k, 2) == 0);
                if (length > 1) {
                    due("turns to one side", x.corner(corner, 4), x.corner(x.curve(k, 0), 4));
                    due("a turn", x.corner(corner, 4) != 0, true);
                }
            }
            corners += length;
        }
        due("all round", corners, all);
        for (int k = 0; k < first; k++) {
            due("no sharp one before the beginning", x.corner(k, 3) >= sharpness, false);
        }
        due("the beginning is sharp or the first", first == 0 || x.corner(first, 3) >= sharpness, true);
    }

    private void curvesMeet(int k) {
        int next = (k + 1) % x.told(6);
        int all = x.told(4);
        int before = (x.curve(k, 0) + all - 1) % all;
        for (int axis = 0; axis < 2; axis++) {
            due("end of curve " + k, x.curve(k, 9 + axis), x.curve(next, 3 + axis));
            due("middle", x.curve(k, 3 + axis), 16 * (x.corner(before, 1 + axis) + x.corner(x.curve(k, 0), 1 + axis)));
            due("place 0", x.place(k, 0, axis), 512 * x.curve(k, 3 + axis));
            due("place 8", x.place(k, 8, axis), 512 * x.curve(k, 9 + axis));
        }
    }

    private void placesLie(int k, int error) {
        due("near(" + k + ", 0, 0): a middle", x.near(k, 0, 0), true);
        due("near(" + k + ", 8, 0): a middle", x.near(k, 8, 0), true);
        for (int t = 1; t < 8; t++) {
            if (x.curve(k, 1) > 1) {
                due("near(" + k + ", " + t + ", " + error + ") of a joined one", x.near(k, t, error), true);
            }
            if (x.curve(k, 2) == 0) {
                due("near(" + k + ", " + t + ", 0) of a sharp one", x.near(k, t, 0), true);
            }
            int less = random.nextInt(64);
            due("near for more, if for less", x.near(k, t, less) && !x.near(k, t, less + 1), false);
        }
    }
}
