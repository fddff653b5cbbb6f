/** Each sentence about pieces, the polygon, corners and angles that names a boundary case, by a test of its own. */
public final class PolygonBoundariesTest extends Due {
    public static void main(String[] args) {
        stepsAtTheEnds();
        stepsRound();
        moreStepsThanPoints();
        stiffnessAtTheEnds();
        oneStepAlwaysIsStraight();
        threeOfFourDirections();
        notAboveTheBound();
        theGreaterDifference();
        eachOnceAndWithoutSign();
        thereIsNoSuchPoint();
        threeCornersAtLeast();
        theFewestCorners();
        theLeastSumOfCosts();
        theFirstRow();
        roundToTheFirst();
        roundByTheMostSteps();
        piecesOfTheMostSteps();
        noPieceIsLonger();
        theSmallestAndTheLargest();
        aPolygonHasNoCurves();
        polygonRefused();
        angleOfNoInnerProduct();
        angleAtMost();
        angleRoundedDown();
        noAngle();
        turns();
        cornersAtTheEnds();
        cornerOfAnother();
        end();
    }

    /** Points (0, 0), (1, 0), (1, 1), (2, 1) and so on: 24 steps from the first one lead to (12, 12). */
    private static OutlineCurves stairs() {
        OutlineCurves x = new OutlineCurves(16, 16);
        for (int y = 0; y < 16; y++) {
            x.put(0, y, y + 1, 1);
        }
        x.trace(0, 0);
        return x;
    }

    private static void stepsAtTheEnds() {
        sentence("from its point i by k steps, 1 .. 24");
        OutlineCurves x = stairs();
        due("piece(0, 0, 1, 2)", x.piece(0, 0, 1, 2), 0);
        due("piece(0, 0, 2, 2)", x.piece(0, 0, 2, 2), 1);
        due("piece(0, 0, 24, 2)", x.piece(0, 0, 24, 2), 144);
        for (int k : new int[] {0, 25, -1, 64, Integer.MIN_VALUE, Integer.MAX_VALUE}) {
            dueThrow("piece(0, 0, " + k + ", 2)", () -> x.piece(0, 0, k, 2), ARGUMENT);
        }
    }

    private static void stepsRound() {
        sentence("by k steps (round, if need be)");
        OutlineCurves x = traced(0, "1");
        due("piece(0, 3, 1, 1)", x.piece(0, 3, 1, 1), 0);
        due("piece(0, 3, 2, 1)", x.piece(0, 3, 2, 1), -1);
        due("piece(0, 3, 2, 2)", x.piece(0, 3, 2, 2), 1);
        due("piece(0, 2, 3, 2)", x.piece(0, 2, 3, 2), 2);
        due("piece(0, 3, 3, 2)", x.piece(0, 3, 3, 2), 2);
        OutlineCurves bar = traced(0, "1111");
        // from (0, 1) up and along the upper sides to (4, 0)
        due("piece(0, 9, 5, 2)", bar.piece(0, 9, 5, 2), 4 + 3 + 2 + 1);
        due("piece(0, 9, 5, 1)", bar.piece(0, 9, 5, 1), -1);
        OutlineCurves two = traced(1, "1.1");
        due("piece(0, 3, 2, 2) of the first of two", two.piece(0, 3, 2, 2), 1);
        due("piece(1, 3, 2, 2) of the second of two", two.piece(1, 3, 2, 2), 1);
    }

    private static void moreStepsThanPoints() {
        sentence("by k steps (round, if need be), more than all round");
        OutlineCurves x = traced(0, "1");
        for (int i = 0; i < 4; i++) {
            for (int k = 4; k <= 24; k++) {
                due("piece(0, " + i + ", " + k + ", 8)", x.piece(0, i, k, 8), -1);
            }
        }
    }

    private static void stiffnessAtTheEnds() {
        sentence("a stiffness s, 1 .. 8");
        OutlineCurves x = traced(0, "1");
        due("piece(0, 0, 2, 1)", x.piece(0, 0, 2, 1), -1);
        due("piece(0, 0, 2, 8)", x.piece(0, 0, 2, 8), 1);
        for (int s : new int[] {0, 9, -1, Integer.MIN_VALUE, Integer.MAX_VALUE}) {
            dueThrow("piece(0, 0, 1, " + s + ")", () -> x.piece(0, 0, 1, s), ARGUMENT);
            dueThrow("polygon(0, " + s + ")", () -> x.polygon(0, s), ARGUMENT);
        }
    }

    private static void oneStepAlwaysIsStraight() {
        sentence("k = 1 always is straight");
        OutlineCurves x = traced(0, "1.1", "111", ".1.");
        for (int i = 0; i < x.about(0, 0); i++) {
            for (int s = 1; s <= 8; s++) {
                due("piece(0, " + i + ", 1, " + s + ")", x.piece(0, i, 1, s), 0);
            }
        }
    }

    private static void threeOfFourDirections() {
        sentence("straight if it has steps in at most three of the four directions");
        OutlineCurves x = traced(0, "1");
        due("piece(0, 0, 3, 2), three", x.piece(0, 0, 3, 2), 2);
        // back at its beginning all cross products are 0
        due("piece(0, 0, 4, 1), four", x.piece(0, 0, 4, 1), -1);
        // to (1, 0) all round: none of the cross products is above 1
        due("piece(0, 0, 5, 8), four", x.piece(0, 0, 5, 8), -1);
        OutlineCurves bar = traced(0, "1", "1", "1");
        due("right, down, left", bar.piece(0, 0, 5, 2), 4 * 3);
        // to (0, 2): the cross products are 2, 2, 2, 2, 0 beside a difference of 2
        due("right, down, left, up", bar.piece(0, 0, 6, 8), -1);
        OutlineCurves waist = traced(0, "111", ".1.", "111");
        due("left, down, right, down", waist.piece(0, 4, 4, 8), 4);
    }

    private static void notAboveTheBound() {
        sentence("twice the cross product is not above s times the greater difference");
        OutlineCurves x = traced(0, "1");
        due("piece(0, 0, 2, 2), 2 and 2", x.piece(0, 0, 2, 2), 1);
        due("piece(0, 0, 2, 1), 2 and 1", x.piece(0, 0, 2, 1), -1);
        OutlineCurves y = stairs();
        due("piece(0, 0, 24, 2), 24 and 24", y.piece(0, 0, 24, 2), 144);
        due("piece(0, 0, 24, 1), 24 and 12", y.piece(0, 0, 24, 1), -1);
        OutlineCurves bar = traced(0, "1111");
        // to (2, 1): the greatest cross product is 4, beside a difference of 2
        due("piece(0, 0, 7, 4), 8 and 8", bar.piece(0, 0, 7, 4), 1 + 2 + 3 + 4 + 2 + 1);
        due("piece(0, 0, 7, 3), 8 and 6", bar.piece(0, 0, 7, 3), -1);
        // to (1, 1): 8 and 8 at the greatest stiffness
        due("piece(0, 0, 8, 8), 8 and 8", bar.piece(0, 0, 8, 8), 1 + 2 + 3 + 4 + 3 + 2 + 1);
        due("piece(0, 0, 8, 7), 8 and 7", bar.piece(0, 0, 8, 7), -1);
    }

    private static void theGreaterDifference() {
        sentence("the greater one of the differences of x and of y of a and b, without signs");
        OutlineCurves x = traced(0, "1111");
        // from (0, 0) to (3, 1): the cross products are 1, 2, 3, 4, 1
        due("piece(0, 0, 6, 2)", x.piece(0, 0, 6, 2), -1);
        due("piece(0, 0, 6, 3)", x.piece(0, 0, 6, 3), 11);
        OutlineCurves y = traced(0, "1", "1", "1", "1");
        // from (1, 0) to (0, 3)
        due("upright, piece(0, 1, 6, 2)", y.piece(0, 1, 6, 2), -1);
        due("upright, piece(0, 1, 6, 3)", y.piece(0, 1, 6, 3), 11);
        // from (4, 1) to (1, 0) and from (0, 4) to (1, 1): both differences have another sign
        due("back, piece(0, 5, 6, 2)", x.piece(0, 5, 6, 2), -1);
        due("back, piece(0, 5, 6, 3)", x.piece(0, 5, 6, 3), 11);
        due("upright, back, piece(0, 6, 6, 2)", y.piece(0, 6, 6, 2), -1);
        due("upright, back, piece(0, 6, 6, 3)", y.piece(0, 6, 6, 3), 11);
    }

    private static void eachOnceAndWithoutSign() {
        sentence("COST is the sum of these cross products, each once and without sign");
        OutlineCurves x = traced(0, "1.", "1.", "11");
        // right, down, down, right: -2, 0, 2
        due("piece(0, 0, 4, 2)", x.piece(0, 0, 4, 2), 4);
        due("piece(0, 0, 4, 1)", x.piece(0, 0, 4, 1), -1);
    }

    private static void thereIsNoSuchPoint() {
        sentence("piece: there is no such outline, point");
        OutlineCurves x = traced(1, "1.1");
        for (int odd : new int[] {-1, 4, 8, Integer.MIN_VALUE, Integer.MAX_VALUE}) {
            dueThrow("piece(0, " + odd + ", 1, 1)", () -> x.piece(0, odd, 1, 1), INDEX);
            dueThrow("piece(1, " + odd + ", 0, 9)", () -> x.piece(1, odd, 0, 9), INDEX);
            dueThrow("piece(" + odd + ", 0, 1, 1)", () -> x.piece(odd, 0, 1, 1), INDEX);
        }
        dueThrow("piece(2, 0, 1, 1)", () -> x.piece(2, 0, 1, 1), INDEX);
        due("piece(1, 3, 1, 1)", x.piece(1, 3, 1, 1), 0);
    }

    private static void threeCornersAtLeast() {
        sentence("THE POLYGON has corners, three at least");
        OutlineCurves x = traced(0, "1");
        for (int s = 2; s <= 8; s++) {
            // pieces of three steps and of one would be two corners
            due("polygon(0, " + s + ")", x.polygon(0, s), 3);
            due("told(5)", x.told(5), 1);
        }
        OutlineCurves bar = traced(0, "11111111");
        due("polygon(0, 8) of a bar", bar.polygon(0, 8), 3);
    }

    private static void theFewestCorners() {
        sentence("of all these it has the fewest corners");
        OutlineCurves x = traced(0, "1");
        due("polygon(0, 1), four of no cost", x.polygon(0, 1), 4);
        due("told(5)", x.told(5), 0);
        due("polygon(0, 2), three at a cost", x.polygon(0, 2), 3);
        due("told(5)", x.told(5), 1);
    }

    private static void theLeastSumOfCosts() {
        sentence("of these the least sum of costs");
        OutlineCurves x = traced(0, ".1", "11");
        // points 0, 3, 5 would do at a cost of 5
        due("polygon(0, 2)", x.polygon(0, 2), 3);
        due("corners", corners(x, 0), "1 3 5");
        due("told(5)", x.told(5), 4);
        OutlineCurves square = full(8, 8, 1);
        square.trace(0, 0);
        due("polygon(0, 1)", square.polygon(0, 1), 4);
        due("corners", corners(square, 0), "0 8 16 24");
        due("told(5)", square.told(5), 0);
    }

    private static void theFirstRow() {
        sentence("of these the first row of corners");
        OutlineCurves x = traced(0, "1");
        for (int s = 2; s <= 8; s++) {
            // 0 1 3, 0 2 3 and 1 2 3 cost as much
            x.polygon(0, s);
            due("corners for " + s, corners(x, 0), "0 1 2");
        }
    }

    private static void roundToTheFirst() {
        sentence("each piece from one to the next, and from the last one round to the first, being straight");
        String[][] pictures = {{"1"}, {".1", "11"}, {"1.1", "111"}, {"..1", ".11", "111"}, {"1111", "1..1", "1111"}};
        for (String[] rows : pictures) {
            OutlineCurves x = traced(0, rows);
            int n = x.about(0, 0);
            for (int s = 1; s <= 8; s++) {
                int all = x.polygon(0, s);
                int cost = 0;
                for (int k = 0; k < all; k++) {
                    int i = x.corner(k, 0);
                    int next = k + 1 < all ? x.corner(k + 1, 0) : x.corner(0, 0) + n;
                    due("the next corner is further on", next > i, true);
                    due("the piece is straight", x.piece(0, i, next - i, s) >= 0, true);
                    cost += x.piece(0, i, next - i, s);
                }
                due("told(5)", x.told(5), cost);
            }
        }
    }

    private static void roundByTheMostSteps() {
        sentence("from the last one round to the first, by 24 steps at most");
        OutlineCurves x = traced(0, "11", ".1", ".1", "11", ".1", "11", ".1", "11", ".1", "11", ".1", "11");
        due("polygon(0, 2)", x.polygon(0, 2), 3);
        due("corners", corners(x, 0), "1 8 15");
        due("steps round", 1 + x.about(0, 0) - 15, 24);
        due("told(5)", x.told(5), 186);
        OutlineCurves late = traced(0, ".1..1.11.1.11", "1.1.11.11.11.", "111111....1..");
        // the last first corner that there can be
        due("polygon(0, 2)", late.polygon(0, 2), 4);
        due("corners", corners(late, 0), "23 26 45 47");
        due("told(5)", late.told(5), 314);
    }

    private static void piecesOfTheMostSteps() {
        sentence("each piece from one to the next, by 24 steps at most");
        OutlineCurves first = traced(0, ".1", "1.", ".1", "1.", "11", "1.", "11", "1.", ".1", "1.", "1.", "11");
        due("polygon(0, 2)", first.polygon(0, 2), 3);
        due("corners, 24 steps first", corners(first, 0), "0 24 32");
        due("told(5)", first.told(5), 193);
        OutlineCurves second = traced(0, ".1.111111.11..", "1.11.1...1.111");
        due("polygon(0, 2)", second.polygon(0, 2), 3);
        due("corners, 24 steps then", corners(second, 0), "7 18 42");
        due("told(5)", second.told(5), 236);
    }

    private static void noPieceIsLonger() {
        sentence("a piece leads by 24 steps at most, those of the polygon too");
        OutlineCurves x = traced(0,
                "11", "1.", ".1", "11", ".1", ".1", "11", ".1", ".1", "1.", "1.", "1.", ".1", "1.", ".1");
        // points 1, 10, 24 would cost 276, but 25 steps lead round to the first
        due("polygon(0, 2)", x.polygon(0, 2), 3);
        due("corners", corners(x, 0), "3 24 47");
        due("told(5)", x.told(5), 302);
    }

    private static void theSmallestAndTheLargest() {
        sentence("THE POLYGON of an outline, the shortest and the longest");
        due("of four points", traced(0, "1").polygon(0, 1), 4);
        OutlineCurves all = full(16, 16, 1);
        all.trace(0, 0);
        due("of the full picture", all.polygon(0, 1), 4);
        due("corners", corners(all, 0), "0 16 32 48");
        OutlineCurves comb = full(15, 16, 1);
        for (int row = 0; row < 15; row++) {
            for (int column = 1; column < 15; column += 2) {
                comb.put(column, row, 1, 0);
            }
        }
        comb.trace(0, 0);
        // eight teeth of 15, and what they stand on
        due("points of a comb", comb.about(0, 0), 8 * 30 + 15 + 15 + 2);
        due("polygon(0, 1) of a comb", comb.polygon(0, 1), 8 * 4);
        due("told(5)", comb.told(5), 0);
    }

    private static void aPolygonHasNoCurves() {
        sentence("THE POLYGON is at hand then, without curves");
        OutlineCurves x = traced(0, "1");
        x.polygon(0, 1);
        dueThrow("curve(0, 0)", () -> x.curve(0, 0), STATE);
        x.curves(0, 0);
        due("told(6)", x.told(6), 4);
        due("polygon(0, 1) as before", x.polygon(0, 1), 4);
        due("told(6)", x.told(6), 0);
        dueThrow("curve(0, 0)", () -> x.curve(0, 0), STATE);
        dueThrow("place(0, 0, 0)", () -> x.place(0, 0, 0), STATE);
        dueThrow("near(0, 0, 0)", () -> x.near(0, 0, 0) ? 1 : 0, STATE);
    }

    private static void polygonRefused() {
        sentence("polygon: there is no such outline");
        OutlineCurves x = traced(1, "1.1");
        for (int outline : new int[] {-1, 2, Integer.MIN_VALUE, Integer.MAX_VALUE}) {
            dueThrow("polygon(" + outline + ", 1)", () -> x.polygon(outline, 1), INDEX);
            dueThrow("polygon(" + outline + ", 0)", () -> x.polygon(outline, 0), INDEX);
        }
        due("told(4)", x.told(4), 0);
        due("polygon(1, 1)", x.polygon(1, 1), 4);
        due("corner(0, 1)", x.corner(0, 1), 2);
    }

    private static void angleOfNoInnerProduct() {
        sentence("THE ANGLE: 64 if p is not above 0");
        OutlineCurves x = traced(0, "1");
        x.polygon(0, 1);
        due("p is 0", corners(x, 3), "64 64 64 64");
        x.polygon(0, 2);
        // from (1, 1) over (0, 0) to (1, 0): p is -1
        due("p is below 0", x.corner(0, 3), 64);
        due("p is 0", x.corner(1, 3), 64);
    }

    private static void angleAtMost() {
        sentence("THE ANGLE: 16 times their cross product divided by p, at most 63");
        OutlineCurves x = traced(0, "1.", "1.", "11", "11");
        x.polygon(0, 1);
        due("corners", corners(x, 0), "0 1 6 8");
        // (1, 0) and (1, 4): 64 divided by 1
        due("corner(1, 3)", x.corner(1, 3), 63);
    }

    private static void angleRoundedDown() {
        sentence("THE ANGLE: rounded down");
        OutlineCurves x = traced(0, "1", "1", "1", "1");
        x.polygon(0, 2);
        due("corners", corners(x, 0), "0 3 6");
        // (1, 2) and (-1, 2): 64 divided by 3
        due("corner(1, 3)", x.corner(1, 3), 21);
        OutlineCurves left = traced(0, "1111", "...1");
        left.polygon(0, 1);
        due("corners", corners(left, 0), "0 4 6 9 11");
        // (-2, -1) and (-2, 0): 16 * 2 divided by 4, without the sign of the left turn
        due("corner(3, 3)", left.corner(3, 3), 8);
        due("corner(3, 4)", left.corner(3, 4), -1);
    }

    private static void noAngle() {
        sentence("THE ANGLE and the turn of corners in one line");
        OutlineCurves x = traced(0, ".1", "1.", ".1");
        x.polygon(0, 2);
        due("corners", corners(x, 0), "0 3 7");
        // (1, 0), (1, 1) and (1, 3): straight on in the second, back in the two others
        due("angles", corners(x, 3), "64 0 64");
        due("turns", corners(x, 4), "0 0 0");
    }

    private static void turns() {
        sentence("its turn: 1 to the right, -1 to the left, 0");
        OutlineCurves x = traced(0, "11..", "11..", "1111", "1111");
        x.polygon(0, 1);
        due("corners", corners(x, 0), "0 2 4 6 8 12");
        due("turns", corners(x, 4), "1 1 -1 1 1 1");
        OutlineCurves hole = traced(0, "111", "1.1", "111");
        hole.polygon(1, 1);
        due("turns of a hole", corners(hole, 4), "-1 -1 -1 -1");
    }

    private static void cornersAtTheEnds() {
        sentence("corner: there is no polygon at hand; there is no such corner");
        OutlineCurves x = traced(0, "1");
        dueThrow("corner(0, 0) without a polygon", () -> x.corner(0, 0), STATE);
        dueThrow("corner(-1, 9) without a polygon", () -> x.corner(-1, 9), STATE);
        x.polygon(0, 1);
        due("corner(0, 0)", x.corner(0, 0), 0);
        due("corner(3, 0)", x.corner(3, 0), 3);
        x.polygon(0, 2);
        due("corner(2, 0)", x.corner(2, 0), 2);
        for (int k : new int[] {-1, 3, 4, Integer.MIN_VALUE, Integer.MAX_VALUE}) {
            dueThrow("corner(" + k + ", 0)", () -> x.corner(k, 0), INDEX);
            dueThrow("corner(" + k + ", 9)", () -> x.corner(k, 9), INDEX);
        }
    }

    private static void cornerOfAnother() {
        sentence("corner: NONE for another what");
        OutlineCurves x = traced(0, "1");
        x.polygon(0, 1);
        for (int what : new int[] {-1, 5, 6, Integer.MIN_VALUE, Integer.MAX_VALUE}) {
            due("corner(0, " + what + ")", x.corner(0, what), -1);
            due("corner(3, " + what + ")", x.corner(3, what), -1);
        }
    }
}
