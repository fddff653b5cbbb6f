/** Each promise of the document, by answers that follow from its words: ordinary inputs, edges, wrong inputs. */
public final class PromisesTest extends Due {
    public static void main(String[] args) {
        newObject();
        put();
        putForgets();
        trace();
        traceTurns();
        traceChanges();
        about();
        aboutNested();
        point();
        covered();
        piece();
        polygon();
        corner();
        curves();
        joinedCurves();
        curve();
        place();
        near();
        told();
        clear();
        order();
        end();
    }

    /** Corners (0, 0), (8, 0), (8, 8), (16, 8), (16, 16), (0, 16): the third turns left, all others right. */
    private static OutlineCurves angled() {
        OutlineCurves x = new OutlineCurves(16, 16);
        for (int row = 0; row < 16; row++) {
            x.put(0, row, row < 8 ? 8 : 16, 1);
        }
        x.trace(0, 0);
        return x;
    }

    private static OutlineCurves square() {
        OutlineCurves x = full(8, 8, 1);
        x.trace(0, 0);
        return x;
    }

    private static void newObject() {
        sentence("promise 1");
        int[][] sizes = {{1, 1, 1, 1}, {16, 16, 16, 16}, {17, 0, 16, 1}, {-3, 99, 1, 16}, {5, 9, 5, 9},
            {Integer.MIN_VALUE, Integer.MAX_VALUE, 1, 16}};
        for (int[] size : sizes) {
            OutlineCurves x = new OutlineCurves(size[0], size[1]);
            due("told(0)", x.told(0), size[2]);
            due("told(1)", x.told(1), size[3]);
            for (int what = 2; what <= 6; what++) {
                due("told(" + what + ")", x.told(what), 0);
            }
            for (int row = 0; row < size[3]; row++) {
                due("put of colour 0", x.put(0, row, 16, 0), 0);
            }
            dueThrow("about(0, 0)", () -> x.about(0, 0), STATE);
            dueThrow("corner(0, 0)", () -> x.corner(0, 0), STATE);
            dueThrow("curve(0, 0)", () -> x.curve(0, 0), STATE);
        }
        due("NONE", OutlineCurves.NONE, -1);
    }

    private static void put() {
        sentence("promise 2");
        OutlineCurves x = new OutlineCurves(5, 3);
        due("put(1, 1, 2, 3)", x.put(1, 1, 2, 3), 2);
        due("put(0, 1, 4, 3)", x.put(0, 1, 4, 3), 2);
        due("put(3, 2, 9, 7)", x.put(3, 2, 9, 7), 2);
        due("put(4, 2, MAX, 6)", x.put(4, 2, Integer.MAX_VALUE, 6), 1);
        due("put(4, 2, 1, 6) again", x.put(4, 2, 1, 6), 0);
        due("told(2)", x.told(2), 6);
        due("put(0, 1, 5, 0)", x.put(0, 1, 5, 0), 4);
        due("told(2)", x.told(2), 2);
        int[][] outside = {{-1, 0}, {5, 0}, {0, -1}, {0, 3}, {Integer.MIN_VALUE, 0}, {0, Integer.MAX_VALUE}};
        for (int[] at : outside) {
            dueThrow("put outside", () -> x.put(at[0], at[1], 1, 1), INDEX);
            dueThrow("put outside, wrong otherwise too", () -> x.put(at[0], at[1], 0, 8), INDEX);
        }
        dueThrow("put(0, 0, 0, 1)", () -> x.put(0, 0, 0, 1), ARGUMENT);
        dueThrow("put(0, 0, MIN, 1)", () -> x.put(0, 0, Integer.MIN_VALUE, 1), ARGUMENT);
        dueThrow("put(0, 0, 1, 8)", () -> x.put(0, 0, 1, 8), ARGUMENT);
        dueThrow("put(0, 0, 1, -1)", () -> x.put(0, 0, 1, -1), ARGUMENT);
        due("told(2)", x.told(2), 2);
    }

    private static void putForgets() {
        OutlineCurves x = square();
        x.polygon(0, 1);
        x.curves(65, 0);
        due("put of the same colour", x.put(0, 0, 8, 1), 0);
        dueThrow("put(0, 0, 8, 9)", () -> x.put(0, 0, 8, 9), ARGUMENT);
        dueThrow("put(8, 0, 8, 2)", () -> x.put(8, 0, 8, 2), INDEX);
        due("told(6)", x.told(6), 1);
        due("put(7, 7, 1, 2)", x.put(7, 7, 1, 2), 1);
        for (int what = 3; what <= 6; what++) {
            due("told(" + what + ")", x.told(what), 0);
        }
        dueThrow("point(0, 0, 0)", () -> x.point(0, 0, 0), STATE);
        dueThrow("covered(0, 0)", () -> x.covered(0, 0), STATE);
        dueThrow("piece(0, 0, 1, 1)", () -> x.piece(0, 0, 1, 1), STATE);
        dueThrow("polygon(0, 1)", () -> x.polygon(0, 1), STATE);
        dueThrow("corner(0, 0)", () -> x.corner(0, 0), STATE);
        dueThrow("curves(0, 0)", () -> x.curves(0, 0), STATE);
        dueThrow("place(0, 0, 0)", () -> x.place(0, 0, 0), STATE);
        dueThrow("near(0, 0, 0)", () -> x.near(0, 0, 0) ? 1 : 0, STATE);
    }

    private static void trace() {
        sentence("promise 3");
        OutlineCurves blank = new OutlineCurves(3, 3);
        due("trace of nothing", blank.trace(0, 0), 0);
        dueThrow("about(0, 0) of none", () -> blank.about(0, 0), INDEX);
        OutlineCurves x = drawn("1.2", "...", "33.");
        due("trace(0, 0)", x.trace(0, 0), 6);
        int[] layers = {1, 1, 1, 2, 2, 3};
        for (int i = 0; i < 6; i++) {
            due("layer of " + i, x.about(i, 1), layers[i]);
        }
        due("trace(0, 1)", x.trace(0, 1), 3);
        due("trace(0, 2)", x.trace(0, 2), 0);
        due("trace(3, 256)", x.trace(3, 256), 0);
        OutlineCurves all = full(16, 16, 7);
        due("trace(1, 255) of all", all.trace(1, 255), 7);
        due("trace(1, 256) of all", all.trace(1, 256), 0);
        for (int odd : ODD) {
            dueThrow("trace(odd, 0)", () -> x.trace(odd, 0), ARGUMENT);
            dueThrow("trace(0, odd)", () -> x.trace(0, odd), ARGUMENT);
        }
        dueThrow("trace(4, 0)", () -> x.trace(4, 0), ARGUMENT);
        dueThrow("trace(0, 257)", () -> x.trace(0, 257), ARGUMENT);
    }

    private static void traceTurns() {
        int[] even = {1, 2, 1, 1};
        int[] uneven = {1, 2, 1, 2};
        for (int turn = 0; turn < 4; turn++) {
            due("trace(" + turn + ", 0), even", drawn("....", ".1..", "..1.", "....").trace(turn, 0), even[turn]);
            due("trace(" + turn + ", 0), uneven", drawn("....", "..1.", "...1", "....").trace(turn, 0), uneven[turn]);
            due("trace(" + turn + ", 0), even", drawn("....", "..1.", ".1..", "....").trace(turn, 0), even[turn]);
        }
        due("turn 2, eight", drawn("1111", "11..", "1.1.", "....").trace(2, 0), 1);
        due("turn 2, nine", drawn("1111", "11..", "1.1.", "1...").trace(2, 0), 2);
        due("turn 2, nine of the 16", drawn("1111", "11..", "1.1.", "1...", "1...").trace(2, 0), 2);
        due("turn 2, others are far", drawn("1111.1", "11...1", "1.1..1", ".....1").trace(2, 0), 2);
    }

    private static void traceChanges() {
        OutlineCurves x = square();
        x.polygon(0, 1);
        x.curves(65, 0);
        dueThrow("trace(0, -1)", () -> x.trace(0, -1), ARGUMENT);
        due("told(4)", x.told(4), 4);
        due("told(6)", x.told(6), 1);
        due("trace(1, 0)", x.trace(1, 0), 1);
        due("told(4)", x.told(4), 0);
        due("told(5)", x.told(5), 0);
        due("told(6)", x.told(6), 0);
        dueThrow("corner(0, 0)", () -> x.corner(0, 0), STATE);
    }

    private static void about() {
        sentence("promise 4");
        OutlineCurves x = drawn("11111", "1...1", "1.2.1", "1...1", "11111");
        due("trace", x.trace(0, 0), 4);
        // the hole begins at its lowest sides, behind what lies in it
        int[][] dueOf = {{20, 1, 25, -1}, {4, 1, 1, 2}, {12, 1, -9, 0}, {4, 2, 1, -1}};
        for (int i = 0; i < 4; i++) {
            for (int what = 0; what < 4; what++) {
                due("about(" + i + ", " + what + ")", x.about(i, what), dueOf[i][what]);
            }
            due("about(" + i + ", 4)", x.about(i, 4), -1);
            due("about(" + i + ", -1)", x.about(i, -1), -1);
            due("about(" + i + ", MAX)", x.about(i, Integer.MAX_VALUE), -1);
        }
        due("trace without specks", x.trace(0, 1), 2);
        due("about(1, 2)", x.about(1, 2), -9);
        due("about(1, 3)", x.about(1, 3), 0);
        dueThrow("about(2, 9)", () -> x.about(2, 9), INDEX);
        for (int odd : ODD) {
            dueThrow("about(odd, 0)", () -> x.about(odd, 0), INDEX);
        }
    }

    private static void aboutNested() {
        OutlineCurves x = drawn(
                "111111111",
                "1.......1",
                "1.11111.1",
                "1.1...1.1",
                "1.1.1.1.1",
                "1.1...1.1",
                "1.11111.1",
                "1.......1",
                "111111111");
        due("trace", x.trace(1, 0), 5);
        int[][] dueOf = {{81, -1}, {25, 4}, {1, 3}, {-9, 1}, {-49, 0}};
        for (int i = 0; i < 5; i++) {
            due("about(" + i + ", 2)", x.about(i, 2), dueOf[i][0]);
            due("about(" + i + ", 3)", x.about(i, 3), dueOf[i][1]);
        }
        OutlineCurves touching = drawn("....", ".1..", "..1.", "....");
        touching.trace(0, 0);
        due("points of what touches itself", touching.about(0, 0), 8);
        due("area of what touches itself", touching.about(0, 2), 2);
    }

    private static void point() {
        sentence("promise 5");
        OutlineCurves x = drawn("....", ".1..", "..1.", "....");
        x.trace(0, 0);
        int[][] dueOf = {{1, 1}, {2, 1}, {2, 2}, {3, 2}, {3, 3}, {2, 3}, {2, 2}, {1, 2}};
        for (int i = 0; i < 8; i++) {
            due("point(0, " + i + ", 0)", x.point(0, i, 0), dueOf[i][0]);
            due("point(0, " + i + ", 1)", x.point(0, i, 1), dueOf[i][1]);
        }
        OutlineCurves hole = drawn("111", "1.1", "111");
        hole.trace(0, 0);
        int[][] round = {{1, 2}, {2, 2}, {2, 1}, {1, 1}};
        for (int i = 0; i < 4; i++) {
            due("point(1, " + i + ", 0)", hole.point(1, i, 0), round[i][0]);
            due("point(1, " + i + ", 1)", hole.point(1, i, 1), round[i][1]);
        }
        dueThrow("point(0, 8, 0)", () -> x.point(0, 8, 0), INDEX);
        dueThrow("point(1, 0, 0)", () -> x.point(1, 0, 0), INDEX);
        dueThrow("point(0, 0, 2)", () -> x.point(0, 0, 2), ARGUMENT);
        for (int odd : ODD) {
            dueThrow("point(odd, 0, 0)", () -> x.point(odd, 0, 0), INDEX);
            dueThrow("point(0, odd, 0)", () -> x.point(0, odd, 0), INDEX);
            dueThrow("point(0, odd, odd)", () -> x.point(0, odd, odd), INDEX);
            dueThrow("point(0, 0, odd)", () -> x.point(0, 0, odd), ARGUMENT);
        }
    }

    private static void covered() {
        sentence("promise 6");
        String[] rows = {"7.1.2", ".3453", "66.61", "12345"};
        for (int turn = 0; turn < 4; turn++) {
            OutlineCurves x = drawn(rows);
            x.trace(turn, 0);
            for (int row = 0; row < 4; row++) {
                for (int column = 0; column < 5; column++) {
                    char c = rows[row].charAt(column);
                    due("covered(" + column + ", " + row + ")", x.covered(column, row), c == '.' ? 0 : c - '0');
                }
            }
        }
        OutlineCurves x = drawn("1111", "1531", "1111", "...4");
        x.trace(1, 1);
        // layer 3 keeps its two samples, the layers above are specks
        due("covered(1, 1)", x.covered(1, 1), 3);
        due("covered(2, 1)", x.covered(2, 1), 3);
        due("covered(0, 1)", x.covered(0, 1), 1);
        due("covered(3, 3)", x.covered(3, 3), 1);
        due("covered(2, 3)", x.covered(2, 3), 0);
        dueThrow("covered(4, 0)", () -> x.covered(4, 0), INDEX);
        dueThrow("covered(0, 4)", () -> x.covered(0, 4), INDEX);
        for (int odd : ODD) {
            dueThrow("covered(odd, 0)", () -> x.covered(odd, 0), INDEX);
            dueThrow("covered(0, odd)", () -> x.covered(0, odd), INDEX);
        }
    }

    private static void piece() {
        sentence("promise 7");
        OutlineCurves x = drawn("11");
        x.trace(0, 0);
        due("piece(0, 0, 1, 1)", x.piece(0, 0, 1, 1), 0);
        due("piece(0, 0, 2, 1)", x.piece(0, 0, 2, 1), 0);
        due("piece(0, 0, 3, 1)", x.piece(0, 0, 3, 1), -1);
        due("piece(0, 0, 3, 2)", x.piece(0, 0, 3, 2), 3);
        due("piece(0, 5, 3, 8), round", x.piece(0, 5, 3, 8), 3);
        due("piece(0, 0, 6, 8)", x.piece(0, 0, 6, 8), -1);
        OutlineCurves one = drawn("1");
        one.trace(0, 0);
        due("three directions, stiff", one.piece(0, 0, 3, 1), -1);
        due("three directions", one.piece(0, 0, 3, 2), 2);
        for (int k = 4; k <= 24; k++) {
            due("four directions, " + k, one.piece(0, 1, k, 8), -1);
        }
        OutlineCurves stairs = new OutlineCurves(16, 16);
        for (int y = 0; y < 16; y++) {
            stairs.put(0, y, y + 1, 1);
        }
        stairs.trace(0, 0);
        due("piece(0, 0, 24, 2)", stairs.piece(0, 0, 24, 2), 144);
        due("piece(0, 0, 24, 1)", stairs.piece(0, 0, 24, 1), -1);
        dueThrow("piece(0, 0, 25, 1)", () -> x.piece(0, 0, 25, 1), ARGUMENT);
        dueThrow("piece(0, 0, 0, 1)", () -> x.piece(0, 0, 0, 1), ARGUMENT);
        dueThrow("piece(0, 0, 1, 0)", () -> x.piece(0, 0, 1, 0), ARGUMENT);
        dueThrow("piece(0, 0, 1, 9)", () -> x.piece(0, 0, 1, 9), ARGUMENT);
        dueThrow("piece(0, 6, 0, 1)", () -> x.piece(0, 6, 0, 1), INDEX);
        for (int odd : ODD) {
            dueThrow("piece(odd, 0, 1, 1)", () -> x.piece(odd, 0, 1, 1), INDEX);
            dueThrow("piece(0, odd, 1, 1)", () -> x.piece(0, odd, 1, 1), INDEX);
            dueThrow("piece(0, 0, odd, 1)", () -> x.piece(0, 0, odd, 1), ARGUMENT);
            dueThrow("piece(0, 0, 1, odd)", () -> x.piece(0, 0, 1, odd), ARGUMENT);
        }
    }

    private static void polygon() {
        sentence("promise 8");
        OutlineCurves one = drawn("1");
        one.trace(0, 0);
        due("polygon(0, 1)", one.polygon(0, 1), 4);
        due("told(5)", one.told(5), 0);
        for (int stiffness = 2; stiffness <= 8; stiffness++) {
            // two corners would do, but three are the least
            due("polygon(0, " + stiffness + ")", one.polygon(0, stiffness), 3);
            due("told(5)", one.told(5), 1);
            for (int k = 0; k < 3; k++) {
                due("corner(" + k + ", 0)", one.corner(k, 0), k);
            }
        }
        OutlineCurves x = angled();
        due("polygon(0, 1)", x.polygon(0, 1), 6);
        int[] points = {0, 8, 16, 24, 32, 48};
        for (int k = 0; k < 6; k++) {
            due("corner(" + k + ", 0)", x.corner(k, 0), points[k]);
        }
        due("told(5)", x.told(5), 0);
        x.curves(65, 64);
        dueThrow("polygon(0, 9)", () -> x.polygon(0, 9), ARGUMENT);
        dueThrow("polygon(0, 0)", () -> x.polygon(0, 0), ARGUMENT);
        dueThrow("polygon(1, 0)", () -> x.polygon(1, 0), INDEX);
        for (int odd : ODD) {
            dueThrow("polygon(odd, 1)", () -> x.polygon(odd, 1), INDEX);
            dueThrow("polygon(0, odd)", () -> x.polygon(0, odd), ARGUMENT);
        }
        due("a throw leaves the polygon", x.told(4), 6);
        due("a throw leaves its curves", x.told(6) > 0 ? 1 : 0, 1);
        due("polygon(0, 1)", x.polygon(0, 1), 6);
        due("told(6)", x.told(6), 0);
        dueThrow("curve(0, 0)", () -> x.curve(0, 0), STATE);
    }

    private static void corner() {
        sentence("promise 9");
        OutlineCurves x = angled();
        x.polygon(0, 1);
        int[][] dueOf = {{0, 0, 0, 64, 1}, {8, 8, 0, 64, 1}, {16, 8, 8, 64, -1}, {24, 16, 8, 64, 1},
            {32, 16, 16, 64, 1}, {48, 0, 16, 64, 1}};
        for (int k = 0; k < 6; k++) {
            for (int what = 0; what < 5; what++) {
                due("corner(" + k + ", " + what + ")", x.corner(k, what), dueOf[k][what]);
            }
            due("corner(" + k + ", 5)", x.corner(k, 5), -1);
            due("corner(" + k + ", -1)", x.corner(k, -1), -1);
        }
        dueThrow("corner(6, 5)", () -> x.corner(6, 5), INDEX);
        for (int odd : ODD) {
            dueThrow("corner(odd, 0)", () -> x.corner(odd, 0), INDEX);
        }
        anglesByTheirWords();
    }

    private static void anglesByTheirWords() {
        OutlineCurves x = drawn("...11111...", ".111111111.", "11111111111", "11111111111", ".111111111.", "...11111...",
                ".....1.....");
        x.trace(0, 0);
        int small = 0;
        for (int stiffness = 1; stiffness <= 8; stiffness++) {
            int all = x.polygon(0, stiffness);
            for (int k = 0; k < all; k++) {
                int a = (k + all - 1) % all;
                int c = (k + 1) % all;
                int ux = x.corner(k, 1) - x.corner(a, 1);
                int uy = x.corner(k, 2) - x.corner(a, 2);
                int vx = x.corner(c, 1) - x.corner(k, 1);
                int vy = x.corner(c, 2) - x.corner(k, 2);
                int p = ux * vx + uy * vy;
                int cross = ux * vy - uy * vx;
                int angle = p <= 0 ? 64 : Math.min(63, Math.abs(16 * cross) / p);
                small += angle < 63 ? 1 : 0;
                due("corner(" + k + ", 3)", x.corner(k, 3), angle);
                due("corner(" + k + ", 4)", x.corner(k, 4), cross > 0 ? 1 : cross < 0 ? -1 : 0);
            }
        }
        due("small angles were met", small > 0 ? 1 : 0, 1);
    }

    private static void curves() {
        sentence("promise 10");
        OutlineCurves x = angled();
        dueThrow("curves without a polygon", () -> x.curves(0, 0), STATE);
        dueThrow("curves without a polygon, wrong otherwise too", () -> x.curves(-1, 65), STATE);
        x.polygon(0, 1);
        due("all are sharp", x.curves(0, 64), 6);
        due("f of a sharp one", x.curve(0, 2), 0);
        due("an angle of 64 is sharp at 64", x.curves(64, 64), 6);
        due("f of a sharp one", x.curve(5, 2), 0);
        due("none is sharp, none joined", x.curves(65, 0), 6);
        due("f of a single one", x.curve(0, 2), 16);
        dueThrow("curves(66, 0)", () -> x.curves(66, 0), ARGUMENT);
        dueThrow("curves(0, 65)", () -> x.curves(0, 65), ARGUMENT);
        for (int odd : ODD) {
            dueThrow("curves(odd, 0)", () -> x.curves(odd, 0), ARGUMENT);
            dueThrow("curves(0, odd)", () -> x.curves(0, odd), ARGUMENT);
        }
        due("a throw leaves the curves", x.curve(0, 2), 16);
        due("told(6)", x.told(6), 6);
    }

    /** In the square all four corners join, at the error 0 too: the curve runs along one side. */
    private static void joinedCurves() {
        OutlineCurves x = square();
        x.polygon(0, 1);
        due("curves(65, 0)", x.curves(65, 0), 1);
        int[] all = {0, 4, 1, 0, 128, 0, 120, 0, 136, 0, 128};
        for (int what = 0; what <= 10; what++) {
            due("curve(0, " + what + ")", x.curve(0, what), all[what]);
        }
        OutlineCurves y = angled();
        y.polygon(0, 1);
        // a left turn stands between, so that at most two and three can join
        due("curves(65, 64)", y.curves(65, 64) >= 3 ? 1 : 0, 1);
        int corners = 0;
        for (int k = 0; k < y.told(6); k++) {
            due("a curve begins behind the one before", y.curve(k, 0), corners);
            due("the left turn is alone", corners != 2 || y.curve(k, 1) == 1 ? 1 : 0, 1);
            corners += y.curve(k, 1);
        }
        due("each corner is in one curve", corners, 6);
    }

    private static void curve() {
        sentence("promise 11");
        OutlineCurves x = angled();
        x.polygon(0, 1);
        x.curves(64, 0);
        int[] sharp = {1, 1, 0, 128, 0, 256, 0, 256, 0, 256, 128};
        int[] round = {1, 1, 16, 128, 0, 256, 0, 256, 0, 256, 128};
        for (int what = 0; what <= 10; what++) {
            due("sharp, curve(1, " + what + ")", x.curve(1, what), sharp[what]);
        }
        x.curves(65, 0);
        for (int what = 0; what <= 10; what++) {
            due("single, curve(1, " + what + ")", x.curve(1, what), round[what]);
        }
        for (int odd : ODD) {
            due("curve(1, odd)", x.curve(1, odd), -1);
            dueThrow("curve(odd, 0)", () -> x.curve(odd, 0), INDEX);
        }
        due("curve(1, 11)", x.curve(1, 11), -1);
        dueThrow("curve(6, 11)", () -> x.curve(6, 11), INDEX);
    }

    private static void place() {
        sentence("promise 12");
        OutlineCurves x = angled();
        x.polygon(0, 1);
        x.curves(65, 0);
        // the corner (8, 0): from (4, 0) by twice (8, 0) to (8, 4)
        int[][] round = {{65536, 0}, {87168, 128}, {103424, 1024}, {115072, 3456}, {122880, 8192}, {127616, 16000},
            {130048, 27648}, {130944, 43904}, {131072, 65536}};
        for (int t = 0; t <= 8; t++) {
            due("place(1, " + t + ", 0)", x.place(1, t, 0), round[t][0]);
            due("place(1, " + t + ", 1)", x.place(1, t, 1), round[t][1]);
        }
        x.curves(64, 0);
        for (int t = 0; t <= 8; t++) {
            due("sharp, place(1, " + t + ", 0)", x.place(1, t, 0), 65536 + 16384 * Math.min(t, 4));
            due("sharp, place(1, " + t + ", 1)", x.place(1, t, 1), 16384 * Math.max(0, t - 4));
        }
        dueThrow("place(0, 9, 0)", () -> x.place(0, 9, 0), ARGUMENT);
        dueThrow("place(0, 0, 2)", () -> x.place(0, 0, 2), ARGUMENT);
        dueThrow("place(6, 9, 2)", () -> x.place(6, 9, 2), INDEX);
        for (int odd : ODD) {
            dueThrow("place(odd, 0, 0)", () -> x.place(odd, 0, 0), INDEX);
            dueThrow("place(0, odd, 0)", () -> x.place(0, odd, 0), ARGUMENT);
            dueThrow("place(0, 0, odd)", () -> x.place(0, 0, odd), ARGUMENT);
        }
    }

    private static void near() {
        sentence("promise 13");
        OutlineCurves x = angled();
        x.polygon(0, 1);
        x.curves(65, 0);
        // place 4 of the corner (8, 0) is (7.5, 0.5), 16 from both lines
        due("near(1, 4, 15)", x.near(1, 4, 15) ? 1 : 0, 0);
        due("near(1, 4, 16)", x.near(1, 4, 16) ? 1 : 0, 1);
        due("near(1, 0, 0)", x.near(1, 0, 0) ? 1 : 0, 1);
        due("near(1, 8, 0)", x.near(1, 8, 0) ? 1 : 0, 1);
        due("near(1, 1, 0)", x.near(1, 1, 0) ? 1 : 0, 0);
        due("near(1, 1, 1)", x.near(1, 1, 1) ? 1 : 0, 1);
        x.curves(0, 0);
        for (int t = 0; t <= 8; t++) {
            due("a sharp one lies on its lines", x.near(3, t, 0) ? 1 : 0, 1);
        }
        dueThrow("near(0, 9, 0)", () -> x.near(0, 9, 0) ? 1 : 0, ARGUMENT);
        dueThrow("near(0, 0, 65)", () -> x.near(0, 0, 65) ? 1 : 0, ARGUMENT);
        dueThrow("near(6, 9, 65)", () -> x.near(6, 9, 65) ? 1 : 0, INDEX);
        for (int odd : ODD) {
            dueThrow("near(odd, 0, 0)", () -> x.near(odd, 0, 0) ? 1 : 0, INDEX);
            dueThrow("near(0, odd, 0)", () -> x.near(0, odd, 0) ? 1 : 0, ARGUMENT);
            dueThrow("near(0, 0, odd)", () -> x.near(0, 0, odd) ? 1 : 0, ARGUMENT);
        }
    }

    private static void told() {
        sentence("promise 14");
        OutlineCurves x = drawn("12..", "3...", "....");
        int[] before = {4, 3, 3, 0, 0, 0, 0};
        int[] traced = {4, 3, 3, 3, 0, 0, 0};
        dueAll(x, before);
        due("trace", x.trace(0, 0), 3);
        dueAll(x, traced);
        due("trace without specks", x.trace(0, 1), 2);
        due("told(3)", x.told(3), 2);
        due("polygon(0, 1)", x.polygon(0, 1), x.told(4));
        due("told(6)", x.told(6), 0);
        due("curves(0, 0)", x.curves(0, 0), x.told(4));
        due("told(6)", x.told(6), x.told(4));
        for (int odd : ODD) {
            due("told(odd)", x.told(odd), -1);
        }
        due("told(7)", x.told(7), -1);
    }

    private static void dueAll(OutlineCurves x, int[] wants) {
        for (int what = 0; what < wants.length; what++) {
            due("told(" + what + ")", x.told(what), wants[what]);
        }
    }

    private static void clear() {
        sentence("promise 15");
        OutlineCurves x = angled();
        x.polygon(0, 1);
        x.curves(0, 0);
        x.clear();
        for (int what = 2; what <= 6; what++) {
            due("told(" + what + ")", x.told(what), 0);
        }
        due("told(0)", x.told(0), 16);
        dueThrow("about(0, 0)", () -> x.about(0, 0), STATE);
        dueThrow("corner(0, 0)", () -> x.corner(0, 0), STATE);
        dueThrow("curve(0, 0)", () -> x.curve(0, 0), STATE);
        due("trace", x.trace(0, 0), 0);
        dueThrow("about(0, 0)", () -> x.about(0, 0), INDEX);
        x.clear();
        dueThrow("clear of a blank picture", () -> x.about(0, 0), STATE);
    }

    /** Of several exceptions the first that the face names: state, then index, then argument. */
    private static void order() {
        sentence("terms");
        OutlineCurves x = new OutlineCurves(4, 4);
        dueThrow("about(-1, 9)", () -> x.about(-1, 9), STATE);
        dueThrow("point(-1, -1, 9)", () -> x.point(-1, -1, 9), STATE);
        dueThrow("covered(-1, 9)", () -> x.covered(-1, 9), STATE);
        dueThrow("piece(-1, -1, 0, 0)", () -> x.piece(-1, -1, 0, 0), STATE);
        dueThrow("polygon(-1, 0)", () -> x.polygon(-1, 0), STATE);
        dueThrow("corner(-1, 9)", () -> x.corner(-1, 9), STATE);
        dueThrow("curve(-1, 99)", () -> x.curve(-1, 99), STATE);
        dueThrow("place(-1, 9, 9)", () -> x.place(-1, 9, 9), STATE);
        dueThrow("near(-1, 9, 99)", () -> x.near(-1, 9, 99) ? 1 : 0, STATE);
        x.trace(0, 0);
        dueThrow("piece(0, 0, 0, 0)", () -> x.piece(0, 0, 0, 0), INDEX);
        dueThrow("point(0, 0, 9)", () -> x.point(0, 0, 9), INDEX);
        dueThrow("polygon(0, 0)", () -> x.polygon(0, 0), INDEX);
    }
}
