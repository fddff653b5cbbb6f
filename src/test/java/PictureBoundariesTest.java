/** Each sentence about the picture, put, told and clear that names a boundary case, by a test of its own. */
public final class PictureBoundariesTest extends Due {
    public static void main(String[] args) {
        sizesTooSmall();
        sizesTooLarge();
        sizesAtTheEnds();
        samplesAtTheEnds();
        atFirstColourZero();
        coloursAtTheEnds();
        runsToTheRight();
        runsThatEndWithTheRow();
        runsTooLong();
        howManyHadAnother();
        anotherColourTakesAll();
        theSameColourTakesNothing();
        toldZeroWithoutSuch();
        toldOfFull();
        toldOfAnother();
        clearOfAll();
        clearOfNothing();
        clearLeavesTheSize();
        theLastCall();
        end();
    }

    private static void sizeIs(int width, int height, int wantWidth, int wantHeight) {
        OutlineCurves x = new OutlineCurves(width, height);
        String size = "(" + width + ", " + height + ")";
        due("told(0) of " + size, x.told(0), wantWidth);
        due("told(1) of " + size, x.told(1), wantHeight);
        due("put at the last sample of " + size, x.put(wantWidth - 1, wantHeight - 1, 1, 1), 1);
        dueThrow("put to the right of " + size, () -> x.put(wantWidth, 0, 1, 1), INDEX);
        dueThrow("put below " + size, () -> x.put(0, wantHeight, 1, 1), INDEX);
        due("told(2) of " + size, x.told(2), 1);
    }

    private static void sizesTooSmall() {
        sentence("a width and a height of 1 .. 16 (others count as the nearest of these), too small");
        for (int small : new int[] {0, -1, -16, Integer.MIN_VALUE}) {
            sizeIs(small, 5, 1, 5);
            sizeIs(5, small, 5, 1);
            sizeIs(small, small, 1, 1);
        }
    }

    private static void sizesTooLarge() {
        sentence("a width and a height of 1 .. 16 (others count as the nearest of these), too large");
        for (int large : new int[] {17, 32, 1 << 16, Integer.MAX_VALUE}) {
            sizeIs(large, 5, 16, 5);
            sizeIs(5, large, 5, 16);
            sizeIs(large, large, 16, 16);
            sizeIs(large, -large, 16, 1);
        }
    }

    private static void sizesAtTheEnds() {
        sentence("a width and a height of 1 .. 16");
        for (int size : new int[] {1, 2, 15, 16}) {
            sizeIs(size, 7, size, 7);
            sizeIs(7, size, 7, size);
            sizeIs(size, 17 - size, size, 17 - size);
        }
    }

    private static void samplesAtTheEnds() {
        sentence("columns x to the right, rows y downward");
        OutlineCurves x = new OutlineCurves(3, 2);
        x.put(2, 0, 1, 4);
        x.put(0, 1, 1, 6);
        x.trace(0, 0);
        String[] rows = {"004", "600"};
        for (int y = 0; y < 2; y++) {
            for (int column = 0; column < 3; column++) {
                due("covered(" + column + ", " + y + ")", x.covered(column, y), rows[y].charAt(column) - '0');
            }
        }
    }

    private static void atFirstColourZero() {
        sentence("a colour 0 .. 7 for each sample, at first 0");
        OutlineCurves x = new OutlineCurves(16, 16);
        due("told(2)", x.told(2), 0);
        for (int row = 0; row < 16; row++) {
            due("put(0, " + row + ", 16, 0)", x.put(0, row, 16, 0), 0);
        }
        for (int turn = 0; turn < 4; turn++) {
            due("trace(" + turn + ", 0)", x.trace(turn, 0), 0);
        }
    }

    private static void coloursAtTheEnds() {
        sentence("IllegalArgument: n is below 1, or the colour");
        OutlineCurves x = new OutlineCurves(4, 1);
        due("put(0, 0, 1, 7)", x.put(0, 0, 1, 7), 1);
        due("put(1, 0, 1, 1)", x.put(1, 0, 1, 1), 1);
        due("put(1, 0, 1, 0)", x.put(1, 0, 1, 0), 1);
        for (int colour : new int[] {8, -1, 9, 256, 263, Integer.MIN_VALUE, Integer.MAX_VALUE}) {
            dueThrow("put(0, 0, 1, " + colour + ")", () -> x.put(0, 0, 1, colour), ARGUMENT);
        }
        for (int n : new int[] {0, -1, -4, Integer.MIN_VALUE}) {
            dueThrow("put(0, 0, " + n + ", 1)", () -> x.put(0, 0, n, 1), ARGUMENT);
        }
        due("told(2)", x.told(2), 1);
        x.trace(0, 0);
        due("covered(0, 0)", x.covered(0, 0), 7);
    }

    private static void runsToTheRight() {
        sentence("samples from (x, y) on, n to the right, get a colour");
        OutlineCurves x = new OutlineCurves(6, 3);
        due("put(2, 1, 3, 5)", x.put(2, 1, 3, 5), 3);
        due("told(2)", x.told(2), 3);
        x.trace(0, 0);
        String[] rows = {"000000", "005550", "000000"};
        for (int y = 0; y < 3; y++) {
            for (int column = 0; column < 6; column++) {
                due("covered(" + column + ", " + y + ")", x.covered(column, y), rows[y].charAt(column) - '0');
            }
        }
        due("put(0, 2, 1, 5)", x.put(0, 2, 1, 5), 1);
        due("told(2)", x.told(2), 4);
    }

    private static void runsThatEndWithTheRow() {
        sentence("n to the right or as many as there are, the row's end");
        OutlineCurves x = new OutlineCurves(4, 3);
        due("put(1, 1, 3, 2), just to the end", x.put(1, 1, 3, 2), 3);
        due("put(3, 0, 1, 2), the last one", x.put(3, 0, 1, 2), 1);
        due("put(0, 2, 4, 2), a whole row", x.put(0, 2, 4, 2), 4);
        due("told(2)", x.told(2), 8);
    }

    private static void runsTooLong() {
        sentence("n to the right or as many as there are, too many");
        for (int n : new int[] {3, 4, 8, 100, Integer.MAX_VALUE - 1, Integer.MAX_VALUE}) {
            OutlineCurves x = new OutlineCurves(4, 2);
            due("put(2, 0, " + n + ", 3)", x.put(2, 0, n, 3), 2);
            due("told(2)", x.told(2), 2);
            x.trace(0, 0);
            due("covered(3, 0)", x.covered(3, 0), 3);
            due("covered(0, 1), no part of this row", x.covered(0, 1), 0);
            due("put(3, 1, " + n + ", 3) in the last row", x.put(3, 1, n, 3), 1);
        }
    }

    private static void howManyHadAnother() {
        sentence("how many had another one");
        OutlineCurves x = drawn("1.1.2");
        due("put(0, 0, 5, 1), some", x.put(0, 0, 5, 1), 3);
        due("put(0, 0, 5, 1), none", x.put(0, 0, 5, 1), 0);
        due("put(0, 0, 5, 0), all", x.put(0, 0, 5, 0), 5);
        due("put(0, 0, 5, 0), none", x.put(0, 0, 5, 0), 0);
    }

    private static OutlineCurves withCurves() {
        OutlineCurves x = traced(0, "22.", "22.", "...");
        x.polygon(0, 1);
        x.curves(0, 0);
        return x;
    }

    private static void anotherColourTakesAll() {
        sentence("when a sample gets another colour, outlines, the polygon at hand and its curves are gone");
        int[][] changes = {{0, 0, 1, 0}, {1, 1, 1, 1}, {2, 2, 1, 7}, {0, 0, 3, 2}, {0, 1, 2, 3}};
        for (int[] c : changes) {
            OutlineCurves x = withCurves();
            String call = "put(" + c[0] + ", " + c[1] + ", " + c[2] + ", " + c[3] + ")";
            due(call + " changes", x.put(c[0], c[1], c[2], c[3]) > 0, true);
            for (int what = 3; what <= 6; what++) {
                due("told(" + what + ") behind " + call, x.told(what), 0);
            }
            dueThrow("about(0, 0)", () -> x.about(0, 0), STATE);
            dueThrow("polygon(0, 1)", () -> x.polygon(0, 1), STATE);
            dueThrow("corner(0, 0)", () -> x.corner(0, 0), STATE);
            dueThrow("curves(0, 0)", () -> x.curves(0, 0), STATE);
            dueThrow("curve(0, 0)", () -> x.curve(0, 0), STATE);
        }
        OutlineCurves back = withCurves();
        back.put(0, 0, 1, 5);
        back.put(0, 0, 1, 2);
        dueThrow("about(0, 0), the old colour again", () -> back.about(0, 0), STATE);
        OutlineCurves blank = new OutlineCurves(2, 2);
        blank.trace(0, 0);
        blank.put(1, 1, 1, 1);
        dueThrow("covered(0, 0) where no outline was", () -> blank.covered(0, 0), STATE);
    }

    private static void theSameColourTakesNothing() {
        sentence("when a sample gets another colour, not the same");
        OutlineCurves x = withCurves();
        due("put(0, 0, 2, 2)", x.put(0, 0, 2, 2), 0);
        due("put(2, 0, 1, 0)", x.put(2, 0, 1, 0), 0);
        due("put(0, 2, 99, 0)", x.put(0, 2, 99, 0), 0);
        due("told(3)", x.told(3), 2);
        due("about(1, 1)", x.about(1, 1), 2);
        due("covered(1, 1)", x.covered(1, 1), 2);
        due("corners", corners(x, 0), "0 2 4 6");
        due("curves", curves(x), "0+1 f0, 1+1 f0, 2+1 f0, 3+1 f0");
    }

    private static void tells(OutlineCurves x, String when, int... wants) {
        for (int i = 0; i < wants.length; i++) {
            due("told(" + (i + 2) + ") " + when, x.told(i + 2), wants[i]);
        }
    }

    private static void toldZeroWithoutSuch() {
        sentence("samples, outlines, corners, the sum of costs, curves, each 0 without such");
        OutlineCurves x = new OutlineCurves(1, 1);
        tells(x, "at first", 0, 0, 0, 0, 0);
        x.trace(0, 0);
        tells(x, "traced, empty", 0, 0, 0, 0, 0);
        x.put(0, 0, 1, 1);
        tells(x, "put", 1, 0, 0, 0, 0);
        x.trace(0, 0);
        tells(x, "traced", 1, 1, 0, 0, 0);
        x.polygon(0, 2);
        tells(x, "with a polygon", 1, 1, 3, 1, 0);
        x.curves(0, 0);
        tells(x, "with curves", 1, 1, 3, 1, 3);
        x.polygon(0, 1);
        tells(x, "with another polygon", 1, 1, 4, 0, 0);
        x.curves(65, 0);
        tells(x, "with a joined curve", 1, 1, 4, 0, 1);
        x.trace(0, 1);
        tells(x, "traced without specks", 1, 0, 0, 0, 0);
        x.put(0, 0, 1, 0);
        tells(x, "put back", 0, 0, 0, 0, 0);
    }

    private static void toldOfFull() {
        sentence("samples of colours above 0, the fullest picture");
        OutlineCurves x = full(16, 16, 7);
        due("told(2)", x.told(2), 256);
        x.put(15, 15, 1, 0);
        due("told(2)", x.told(2), 255);
        due("told(2) of the fewest", full(1, 1, 1).told(2), 1);
    }

    private static void toldOfAnother() {
        sentence("told: NONE for another what");
        OutlineCurves x = withCurves();
        for (int what : new int[] {-1, 7, 8, -7, Integer.MIN_VALUE, Integer.MAX_VALUE}) {
            due("told(" + what + ")", x.told(what), -1);
            due("told(" + what + ") of a new one", new OutlineCurves(1, 1).told(what), -1);
        }
    }

    private static void clearOfAll() {
        sentence("clear: all samples have colour 0; nothing was traced");
        OutlineCurves x = full(16, 16, 7);
        x.trace(0, 0);
        x.polygon(6, 1);
        x.curves(0, 0);
        x.clear();
        tells(x, "behind clear", 0, 0, 0, 0, 0);
        dueThrow("about(0, 0)", () -> x.about(0, 0), STATE);
        dueThrow("point(0, 0, 0)", () -> x.point(0, 0, 0), STATE);
        dueThrow("covered(0, 0)", () -> x.covered(0, 0), STATE);
        dueThrow("piece(0, 0, 1, 1)", () -> x.piece(0, 0, 1, 1), STATE);
        dueThrow("polygon(0, 1)", () -> x.polygon(0, 1), STATE);
        dueThrow("corner(0, 0)", () -> x.corner(0, 0), STATE);
        dueThrow("curves(0, 0)", () -> x.curves(0, 0), STATE);
        dueThrow("curve(0, 0)", () -> x.curve(0, 0), STATE);
        dueThrow("place(0, 0, 0)", () -> x.place(0, 0, 0), STATE);
        dueThrow("near(0, 0, 0)", () -> x.near(0, 0, 0) ? 1 : 0, STATE);
        for (int row = 0; row < 16; row++) {
            due("put(0, " + row + ", 16, 0)", x.put(0, row, 16, 0), 0);
        }
        due("trace", x.trace(0, 0), 0);
    }

    private static void clearOfNothing() {
        sentence("clear of an empty picture: nothing was traced");
        OutlineCurves x = new OutlineCurves(4, 4);
        x.clear();
        tells(x, "behind clear", 0, 0, 0, 0, 0);
        x.trace(0, 0);
        due("covered(0, 0)", x.covered(0, 0), 0);
        x.clear();
        dueThrow("covered(0, 0)", () -> x.covered(0, 0), STATE);
        x.clear();
        dueThrow("covered(0, 0)", () -> x.covered(0, 0), STATE);
        due("put(0, 0, 4, 1)", x.put(0, 0, 4, 1), 4);
        due("trace", x.trace(0, 0), 1);
    }

    private static void clearLeavesTheSize() {
        sentence("clear leaves the width and the height");
        OutlineCurves x = full(3, 9, 2);
        x.clear();
        due("told(0)", x.told(0), 3);
        due("told(1)", x.told(1), 9);
        due("put(2, 8, 1, 1)", x.put(2, 8, 1, 1), 1);
        dueThrow("put(3, 0, 1, 1)", () -> x.put(3, 0, 1, 1), INDEX);
        dueThrow("put(0, 9, 1, 1)", () -> x.put(0, 9, 1, 1), INDEX);
    }

    /** The picture with the most sides, so that the dearest calls are made again and again. */
    private static void theLastCall() {
        sentence("an object is used for at most 512 calls: the last of them");
        OutlineCurves x = checks(16, 16, 7);
        int calls = 128;
        int outlines = x.trace(0, 0);
        int corners = x.polygon(0, 1);
        int curves = x.curves(65, 64);
        calls += 3;
        while (calls + 3 <= 512) {
            due("trace, call " + calls, x.trace(0, 0), outlines);
            due("polygon, call " + calls, x.polygon(0, 1), corners);
            due("curves, call " + calls, x.curves(65, 64), curves);
            calls += 3;
        }
        due("the calls", calls, 512);
    }
}
