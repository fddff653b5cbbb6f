/** Each sentence about curves, places and nearness that names a boundary case, by a test of its own. */
public final class CurveBoundariesTest extends Due {
    public static void main(String[] args) {
        anAngleOfTheSharpness();
        sharpnessAtTheEnds();
        errorAtTheEnds();
        singlePoints();
        sharpPoints();
        singlePull();
        joinedAtTwo();
        joinedAtSix();
        joinedAtSevenIsNone();
        joinedNoneSharp();
        joinedToOneSide();
        joinedNoTurn();
        joinedAtAllCorners();
        joinedAtAllButOne();
        theLeastPull();
        theGreatestPull();
        noPullIsGreater();
        firstAndLastPlaces();
        withoutSuchOne();
        placesAtTheEnds();
        placesOfSharpOnes();
        placesRefused();
        fromTheFirstSharpCorner();
        fromTheFirstCorner();
        joinedOverTheLastNumber();
        notOverTheBeginning();
        theFewestCurves();
        theFirstHasTheMost();
        thenTheSecond();
        curvesAgain();
        curvesRefused();
        curvesOfThePolygonAtHand();
        curveAtTheEnds();
        curveOfAnother();
        nearAtMost();
        nearTheEndsOfLines();
        nearAllLines();
        nearRefused();
        end();
    }

    private static OutlineCurves withPolygon(int turn, int stiffness, String... rows) {
        OutlineCurves x = traced(turn, rows);
        x.polygon(0, stiffness);
        return x;
    }

    /** Corners (0, 0), (1, 2), (0, 4), with angles of 64, 21, 64, all to the right. */
    private static OutlineCurves blade() {
        return withPolygon(0, 2, "1", "1", "1", "1");
    }

    /** Corners (0, 0), (8, 0), (8, 8), (0, 8). */
    private static OutlineCurves square() {
        OutlineCurves x = full(8, 8, 1);
        x.trace(0, 0);
        x.polygon(0, 1);
        return x;
    }

    private static void has(OutlineCurves x, int sharpness, int error, String want) {
        int all = x.curves(sharpness, error);
        String call = "curves(" + sharpness + ", " + error + ")";
        due(call, curves(x), want);
        due(call, all, want.split(",").length);
        due("told(6) behind " + call, x.told(6), all);
    }

    private static void ordinates(OutlineCurves x, int k, int... wants) {
        for (int i = 0; i < 8; i++) {
            due("curve(" + k + ", " + (i + 3) + ")", x.curve(k, i + 3), wants[i]);
        }
    }

    private static void anAngleOfTheSharpness() {
        sentence("A corner with an angle of at least h is SHARP");
        has(blade(), 21, 0, "0+1 f0, 1+1 f0, 2+1 f0");
        has(blade(), 22, 0, "0+1 f0, 1+1 f10, 2+1 f0");
        has(blade(), 20, 0, "0+1 f0, 1+1 f0, 2+1 f0");
    }

    private static void sharpnessAtTheEnds() {
        sentence("a SHARPNESS h, 0 .. 65");
        // the second corner has an angle of 0
        OutlineCurves x = withPolygon(0, 2, ".1", "1.", ".1");
        has(x, 0, 64, "0+1 f0, 1+1 f0, 2+1 f0");
        has(x, 1, 64, "0+1 f0, 1+1 f8, 2+1 f0");
        has(x, 64, 64, "0+1 f0, 1+1 f8, 2+1 f0");
        has(x, 65, 64, "0+1 f16, 1+1 f8, 2+1 f16");
        for (int h : new int[] {-1, 66, Integer.MIN_VALUE, Integer.MAX_VALUE}) {
            dueThrow("curves(" + h + ", 0)", () -> x.curves(h, 0), ARGUMENT);
        }
    }

    private static void errorAtTheEnds() {
        sentence("an ERROR e, 0 .. 64");
        has(square(), 65, 0, "0+4 f1");
        OutlineCurves x = withPolygon(0, 1, ".11.", "1111", "1111", "1111");
        has(x, 44, 64, "2+1 f0, 3+1 f0, 4+3 f1");
        has(x, 44, 63, "2+1 f0, 3+1 f0, 4+3 f5");
        has(x, 44, 0, "2+1 f0, 3+1 f0, 4+1 f12, 0+1 f10, 1+1 f12");
        for (int e : new int[] {-1, 65, Integer.MIN_VALUE, Integer.MAX_VALUE}) {
            dueThrow("curves(44, " + e + ")", () -> x.curves(44, e), ARGUMENT);
        }
    }

    private static void singlePoints() {
        sentence("A SINGLE curve at a corner b between a and c, which is not sharp, has four points");
        OutlineCurves x = blade();
        has(x, 22, 0, "0+1 f0, 1+1 f10, 2+1 f0");
        ordinates(x, 1, 16, 32, 26, 52, 26, 76, 16, 96);
    }

    private static void sharpPoints() {
        sentence("Of a sharp one the second and third point are both 32 b");
        OutlineCurves x = blade();
        has(x, 0, 64, "0+1 f0, 1+1 f0, 2+1 f0");
        ordinates(x, 0, 0, 64, 0, 0, 0, 0, 16, 32);
        ordinates(x, 1, 16, 32, 32, 64, 32, 64, 16, 96);
        ordinates(x, 2, 16, 96, 0, 128, 0, 128, 0, 64);
    }

    private static void singlePull() {
        sentence("f being 8 and an eighth of the angle, rounded down");
        // angles 0, 8, 21, 32, 63, 64
        has(withPolygon(0, 2, ".1", "1.", ".1"), 1, 0, "0+1 f0, 1+1 f8, 2+1 f0");
        has(withPolygon(0, 1, "1111", "...1"), 64, 0, "0+1 f0, 1+1 f0, 2+1 f0, 3+1 f9, 4+1 f0");
        has(blade(), 64, 0, "0+1 f0, 1+1 f10, 2+1 f0");
        has(withPolygon(0, 1, ".1", "1."), 64, 0, "1+1 f0, 2+1 f12, 3+1 f0, 0+1 f12");
        has(withPolygon(0, 1, "1.", "1.", "11", "11"), 64, 0, "0+1 f0, 1+1 f15, 2+1 f0, 3+1 f0");
        has(withPolygon(0, 2, ".1", "1.", ".1"), 65, 0, "0+1 f16, 1+1 f8, 2+1 f16");
    }

    private static void joinedAtTwo() {
        sentence("A JOINED curve, at 2 to 6 corners, two");
        OutlineCurves x = withPolygon(0, 1, ".11", "111", "111");
        due("corners", corners(x, 0), "0 2 5 8 9");
        has(x, 39, 9, "1+1 f0, 2+1 f0, 3+1 f0, 4+2 f20");
        // a = (0, 3), b1 = (0, 2), b2 = (1, 0), c = (3, 0)
        ordinates(x, 3, 0, 80, 0, 60, 24, 0, 64, 0);
        due("place(3, 4, 0)", x.place(3, 4, 0), 64 * (3 * 24 + 64));
        due("place(3, 4, 1)", x.place(3, 4, 1), 64 * (80 + 3 * 60));
    }

    private static void joinedAtSix() {
        sentence("A JOINED curve, at 2 to 6 corners, six");
        OutlineCurves x = withPolygon(0, 1, "111", ".11", "11.");
        due("turns", corners(x, 4), "1 1 1 1 1 1 -1");
        has(x, 65, 19, "0+6 f1, 6+1 f16");
    }

    private static void joinedAtSevenIsNone() {
        sentence("A JOINED curve, at 2 to 6 corners, not seven");
        OutlineCurves x = withPolygon(0, 1, "111.", "1111", ".111", "11.1", "1111", "111.");
        due("turns", corners(x, 4), "1 1 1 1 1 1 1 -1 1");
        has(x, 65, 61, "0+6 f1, 6+1 f9, 7+1 f16, 8+1 f16");
    }

    private static void joinedNoneSharp() {
        sentence("A JOINED curve, none of its corners sharp");
        OutlineCurves x = withPolygon(0, 2, "1", "1", "1");
        due("angles", corners(x, 3), "64 48 64");
        has(x, 53, 8, "0+1 f0, 1+1 f14, 2+1 f0");
        has(x, 53, 64, "0+1 f0, 1+1 f14, 2+1 f0");
        has(x, 64, 64, "0+1 f0, 1+1 f14, 2+1 f0");
        has(x, 65, 64, "0+3 f1");
    }

    private static void joinedToOneSide() {
        sentence("A JOINED curve, all of whose turns are to one side");
        OutlineCurves x = withPolygon(0, 1, ".11", "1..");
        due("turns", corners(x, 4), "1 1 1 -1 1");
        has(x, 65, 3, "0+1 f12, 1+1 f16, 2+1 f16, 3+1 f9, 4+1 f16");
        x.curves(65, 64);
        for (int k = 0; k < x.told(6); k++) {
            if (x.curve(k, 0) <= 3 && x.curve(k, 0) + x.curve(k, 1) > 3) {
                due("how many there are with the left turn", x.curve(k, 1), 1);
            }
        }
        OutlineCurves hole = traced(0, "111", "1.1", "111");
        hole.polygon(1, 1);
        due("turns of a hole", corners(hole, 4), "-1 -1 -1 -1");
        due("all to the left", hole.curves(65, 0), 1);
    }

    private static void joinedNoTurn() {
        sentence("A JOINED curve, turns (cross products, not 0)");
        OutlineCurves x = withPolygon(0, 2, ".1", "1.", ".1");
        due("turns", corners(x, 4), "0 0 0");
        for (int e : new int[] {0, 16, 64}) {
            has(x, 65, e, "0+1 f16, 1+1 f8, 2+1 f16");
        }
    }

    private static void joinedAtAllCorners() {
        sentence("of all corners of the polygon a is bk, c is b1");
        OutlineCurves x = square();
        has(x, 65, 0, "0+4 f1");
        // from the middle of (0, 8) and (0, 0) back to it
        ordinates(x, 0, 0, 128, 0, 120, 0, 136, 0, 128);
        OutlineCurves three = withPolygon(0, 2, "1", "1", "1");
        has(three, 65, 64, "0+3 f1");
        // a = (0, 3), b1 = (0, 0)
        ordinates(three, 0, 0, 48, 0, 45, 0, 51, 0, 48);
    }

    private static void joinedAtAllButOne() {
        sentence("a before and c behind, one corner where all others are joined");
        OutlineCurves x = withPolygon(0, 1, ".1", ".1", "11");
        due("corners", corners(x, 0), "0 1 4 6 9");
        has(x, 65, 45, "0+4 f1, 4+1 f9");
        // a and c are (1, 1), b1 = (1, 0), b4 = (0, 3)
        ordinates(x, 0, 32, 16, 32, 15, 15, 66, 16, 64);
    }

    private static void theLeastPull() {
        sentence("f being the least of 1 .. 64, 1");
        has(square(), 65, 64, "0+4 f1");
        has(withPolygon(0, 1, "1"), 65, 17, "0+4 f1");
    }

    private static void theGreatestPull() {
        sentence("f being the least of 1 .. 64, 64");
        has(withPolygon(0, 1, "1111", "...1"), 65, 15, "0+3 f64, 3+1 f9, 4+1 f16");
    }

    private static void noPullIsGreater() {
        sentence("f being the least of 1 .. 64, not 65");
        has(withPolygon(3, 1, "1..", "111", ".11"), 65, 14, "0+1 f16, 1+1 f9, 2+3 f31, 5+1 f12");
    }

    private static void firstAndLastPlaces() {
        sentence("its PLACES 1 .. 7 all lie NEAR");
        has(withPolygon(2, 1, "11", "1.", ".1", ".1"), 65, 4,
                "0+1 f16, 1+1 f16, 2+1 f16, 3+2 f22, 5+1 f15");
        has(withPolygon(2, 1, "1.", ".1", "1."), 65, 4,
                "0+1 f16, 1+1 f12, 2+1 f16, 3+1 f16, 4+1 f16, 5+1 f16");
    }

    private static void withoutSuchOne() {
        sentence("without such a one it is none");
        OutlineCurves x = withPolygon(0, 1, "11..", "11..", "1111", "1111");
        due("turns", corners(x, 4), "1 1 -1 1 1 1");
        has(x, 65, 0, "0+1 f16, 1+1 f16, 2+1 f16, 3+1 f16, 4+1 f16, 5+1 f16");
    }

    private static void placesAtTheEnds() {
        sentence("PLACE t, 0 .. 8, of a curve");
        OutlineCurves x = blade();
        x.curves(22, 0);
        // the points (16, 32), (26, 52), (26, 76), (16, 96)
        int[][] weights = {{512, 0, 0, 0}, {343, 147, 21, 1}, {216, 216, 72, 8}, {125, 225, 135, 27},
            {64, 192, 192, 64}, {27, 135, 225, 125}, {8, 72, 216, 216}, {1, 21, 147, 343}, {0, 0, 0, 512}};
        for (int t = 0; t <= 8; t++) {
            int[] w = weights[t];
            due("place(1, " + t + ", 0)", x.place(1, t, 0), 16 * w[0] + 26 * w[1] + 26 * w[2] + 16 * w[3]);
            due("place(1, " + t + ", 1)", x.place(1, t, 1), 32 * w[0] + 52 * w[1] + 76 * w[2] + 96 * w[3]);
        }
    }

    private static void placesOfSharpOnes() {
        sentence("At a sharp corner it is 128 ((4 - t) P0 + t P1) for t up to 4, else 128 ((8 - t) P1 + (t - 4) P3)");
        OutlineCurves x = blade();
        x.curves(21, 0);
        // from (16, 32) over (32, 64) to (16, 96)
        for (int t = 0; t <= 8; t++) {
            due("place(1, " + t + ", 0)", x.place(1, t, 0), 512 * (t <= 4 ? 16 + 4 * t : 48 - 4 * t));
            due("place(1, " + t + ", 1)", x.place(1, t, 1), 512 * (32 + 8 * t));
        }
    }

    private static void placesRefused() {
        sentence("place: there is no such curve; another number is none that is told");
        OutlineCurves x = blade();
        x.curves(22, 0);
        due("place(2, 8, 1)", x.place(2, 8, 1), 64 * 512);
        for (int k : new int[] {-1, 3, Integer.MIN_VALUE, Integer.MAX_VALUE}) {
            dueThrow("place(" + k + ", 0, 0)", () -> x.place(k, 0, 0), INDEX);
            dueThrow("place(" + k + ", 9, 2)", () -> x.place(k, 9, 2), INDEX);
        }
        for (int t : new int[] {-1, 9, Integer.MIN_VALUE, Integer.MAX_VALUE}) {
            dueThrow("place(0, " + t + ", 0)", () -> x.place(0, t, 0), ARGUMENT);
        }
        for (int axis : new int[] {-1, 2, Integer.MIN_VALUE, Integer.MAX_VALUE}) {
            dueThrow("place(0, 0, " + axis + ")", () -> x.place(0, 0, axis), ARGUMENT);
        }
    }

    private static void fromTheFirstSharpCorner() {
        sentence("In order from the first sharp corner on, all round");
        OutlineCurves x = withPolygon(0, 1, ".1", "1.");
        due("angles", corners(x, 3), "32 64 32 64");
        has(x, 46, 3, "1+1 f0, 2+1 f12, 3+1 f0, 0+1 f12");
        has(x, 32, 3, "0+1 f0, 1+1 f0, 2+1 f0, 3+1 f0");
        OutlineCurves last = withPolygon(0, 1, ".1", "11");
        for (int h = 0; h <= 64; h++) {
            last.curves(h, 0);
            int first = 0;
            while (first < last.told(4) && last.corner(first, 3) < h) {
                first++;
            }
            due("the first corner for " + h, last.curve(0, 0), first);
        }
    }

    private static void fromTheFirstCorner() {
        sentence("from the first corner, if none is sharp");
        OutlineCurves x = withPolygon(0, 1, ".1", "1.");
        x.curves(65, 0);
        due("curve(0, 0)", x.curve(0, 0), 0);
        OutlineCurves y = withPolygon(0, 2, ".1", "11");
        y.curves(65, 64);
        due("curve(0, 0)", y.curve(0, 0), 0);
    }

    private static void joinedOverTheLastNumber() {
        sentence("all round: a joined one goes from the last corner to the first");
        OutlineCurves x = withPolygon(0, 1, ".11", "111", "111");
        has(x, 39, 9, "1+1 f0, 2+1 f0, 3+1 f0, 4+2 f20");
    }

    private static void notOverTheBeginning() {
        sentence("joined ones do not go over the beginning");
        OutlineCurves x = withPolygon(0, 1, "111", "..1");
        due("turns", corners(x, 4), "1 1 1 -1 1");
        // the last corner and the first three would be one, the fourth another
        has(x, 65, 14, "0+3 f1, 3+1 f9, 4+1 f16");
    }

    private static void theFewestCurves() {
        sentence("Of all such rows of curves it is one with the fewest");
        OutlineCurves x = withPolygon(0, 1, "1.", "1.", ".1", "11");
        // the first two can be joined, but then there are five
        has(x, 65, 7, "0+1 f16, 1+3 f60, 4+1 f16, 5+1 f16");
    }

    private static void theFirstHasTheMost() {
        sentence("of these that whose first one has the most corners");
        has(withPolygon(0, 1, "11", ".1", "1."), 65, 9, "0+3 f1, 3+2 f1, 5+1 f16");
    }

    private static void thenTheSecond() {
        sentence("of these the second, and so on");
        has(withPolygon(3, 1, "11", ".1", "11"), 65, 7, "0+2 f25, 2+2 f26, 4+1 f16, 5+1 f16");
    }

    private static void curvesAgain() {
        sentence("CURVES of the polygon at hand, those that were there before are gone");
        OutlineCurves x = square();
        has(x, 0, 0, "0+1 f0, 1+1 f0, 2+1 f0, 3+1 f0");
        has(x, 65, 0, "0+4 f1");
        dueThrow("curve(1, 0)", () -> x.curve(1, 0), INDEX);
        has(x, 64, 0, "0+1 f0, 1+1 f0, 2+1 f0, 3+1 f0");
    }

    private static void curvesRefused() {
        sentence("curves: there is no polygon at hand");
        OutlineCurves x = new OutlineCurves(2, 2);
        dueThrow("curves(0, 0) of a new one", () -> x.curves(0, 0), STATE);
        x.put(0, 0, 1, 1);
        x.trace(0, 0);
        dueThrow("curves(0, 0) of what is traced", () -> x.curves(0, 0), STATE);
        dueThrow("curves(66, 65) of what is traced", () -> x.curves(66, 65), STATE);
        x.polygon(0, 1);
        due("curves(0, 0)", x.curves(0, 0), 4);
        dueThrow("curves(66, 65)", () -> x.curves(66, 65), ARGUMENT);
        due("told(6)", x.told(6), 4);
        x.trace(0, 0);
        dueThrow("curves(0, 0) of what is traced again", () -> x.curves(0, 0), STATE);
    }

    private static void curvesOfThePolygonAtHand() {
        sentence("CURVES of the polygon at hand, not of the one before");
        OutlineCurves x = traced(1, "1.11", "1...");
        due("polygon(0, 1)", x.polygon(0, 1), 4);
        x.curves(0, 0);
        due("curve(0, 5), 32 b", x.curve(0, 5), 0);
        due("polygon(1, 1)", x.polygon(1, 1), 4);
        x.curves(0, 0);
        due("curve(0, 5), 32 b", x.curve(0, 5), 64);
    }

    private static void curveAtTheEnds() {
        sentence("curve: it has no curves; there is no such curve");
        OutlineCurves x = square();
        dueThrow("curve(0, 0) without curves", () -> x.curve(0, 0), STATE);
        dueThrow("curve(-1, 11) without curves", () -> x.curve(-1, 11), STATE);
        x.curves(0, 0);
        due("curve(3, 0)", x.curve(3, 0), 3);
        due("curve(3, 3)", x.curve(3, 3), 128);
        due("curve(3, 10)", x.curve(3, 10), 128);
        for (int k : new int[] {-1, 4, Integer.MIN_VALUE, Integer.MAX_VALUE}) {
            dueThrow("curve(" + k + ", 0)", () -> x.curve(k, 0), INDEX);
            dueThrow("curve(" + k + ", 11)", () -> x.curve(k, 11), INDEX);
        }
    }

    private static void curveOfAnother() {
        sentence("curve: NONE for another what");
        OutlineCurves x = square();
        x.curves(65, 0);
        for (int what : new int[] {-1, 11, 12, Integer.MIN_VALUE, Integer.MAX_VALUE}) {
            due("curve(0, " + what + ")", x.curve(0, what), -1);
        }
    }

    private static void nearAtMost() {
        sentence("NEAR: at most e from some point of one of the straight lines");
        OutlineCurves x = withPolygon(0, 1, "11", ".1", "11");
        // the corner (2, 0) between (0, 0) and (2, 3), f 16: place 4 is (1.875, 0.1875), 4 from the second line
        x.curves(65, 0);
        due("curve(1, 2)", x.curve(1, 2), 16);
        due("place(1, 4, 0)", x.place(1, 4, 0), 2 * 16384 - 4 * 512);
        due("near(1, 4, 3)", x.near(1, 4, 3), false);
        due("near(1, 4, 4)", x.near(1, 4, 4), true);
        due("near(1, 4, 64)", x.near(1, 4, 64), true);
        due("near(1, 0, 0)", x.near(1, 0, 0), true);
        due("near(1, 8, 0)", x.near(1, 8, 0), true);
        due("near(1, 1, 0)", x.near(1, 1, 0), false);
    }

    private static void nearTheEndsOfLines() {
        sentence("NEAR: some point of one of the straight lines from a to b1, not beyond");
        OutlineCurves x = withPolygon(0, 1, "11", ".1", "11");
        // beyond their ends the lines would let five corners join
        has(x, 65, 10, "0+2 f23, 2+3 f35, 5+1 f16");
        OutlineCurves end = withPolygon(0, 1, "11", ".1", ".1", ".1", "1.", "11", ".1");
        has(end, 65, 14, "0+3 f25, 3+1 f16, 4+3 f2, 7+1 f9");
        // the place (1, 5 - 13 / 32) is nearest to the corner (1, 5), where a line begins
        due("place(2, 4, 0)", end.place(2, 4, 0), 16384);
        due("place(2, 4, 1)", end.place(2, 4, 1), 5 * 16384 - 13 * 512);
        due("near(2, 4, 12)", end.near(2, 4, 12), false);
        due("near(2, 4, 13)", end.near(2, 4, 13), true);
    }

    private static void nearAllLines() {
        sentence("near: the lines from the corner before its first to that behind its last");
        OutlineCurves sharp = withPolygon(0, 1, "1");
        sharp.curves(0, 0);
        for (int k = 0; k < 4; k++) {
            for (int t = 0; t <= 8; t++) {
                due("near(" + k + ", " + t + ", 0)", sharp.near(k, t, 0), true);
            }
        }
        OutlineCurves joined = square();
        joined.curves(65, 0);
        for (int t = 0; t <= 8; t++) {
            due("near(0, " + t + ", 0) of a joined one", joined.near(0, t, 0), true);
        }
        OutlineCurves x = withPolygon(0, 1, ".1", "1.", ".1");
        // two corners join where the line between them is near
        has(x, 65, 3, "0+1 f12, 1+2 f24, 3+1 f16, 4+1 f16, 5+1 f16");
    }

    private static void nearRefused() {
        sentence("near: it has no curves; there is no such curve; another number is none that is told");
        OutlineCurves x = square();
        dueThrow("near(0, 0, 0) without curves", () -> x.near(0, 0, 0) ? 1 : 0, STATE);
        dueThrow("near(-1, 9, 65) without curves", () -> x.near(-1, 9, 65) ? 1 : 0, STATE);
        x.curves(0, 0);
        for (int k : new int[] {-1, 4, Integer.MIN_VALUE, Integer.MAX_VALUE}) {
            dueThrow("near(" + k + ", 0, 0)", () -> x.near(k, 0, 0) ? 1 : 0, INDEX);
            dueThrow("near(" + k + ", 9, 65)", () -> x.near(k, 9, 65) ? 1 : 0, INDEX);
        }
        for (int t : new int[] {-1, 9, Integer.MIN_VALUE, Integer.MAX_VALUE}) {
            dueThrow("near(0, " + t + ", 0)", () -> x.near(0, t, 0) ? 1 : 0, ARGUMENT);
        }
        for (int e : new int[] {-1, 65, Integer.MIN_VALUE, Integer.MAX_VALUE}) {
            dueThrow("near(0, 0, " + e + ")", () -> x.near(0, 0, e) ? 1 : 0, ARGUMENT);
        }
    }
}
