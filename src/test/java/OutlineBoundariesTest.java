/** Each sentence about layers, outlines, tracing and pieces that names a boundary case, by a test of its own. */
public final class OutlineBoundariesTest extends Due {
    private static final String[] RING = {"111", "1.1", "111"};

    public static void main(String[] args) {
        colourZeroIsInNoLayer();
        coloursAreInLayersUpToTheirs();
        whatIsNotInThePictureIsOutside();
        theInsideLiesToTheRight();
        firstByRowsThenByColumns();
        holesBeginWhereTheInsideIsBelow();
        sidesThatAreInAnOutlineBeginNone();
        goesOnTillThisSideComesAgain();
        asManyPointsAsSides();
        asManyOutlinesAsCanBe();
        turnLeftOrRight();
        turnByEightOrNine();
        turnBySixteen();
        turnBySamplesBeyondThePicture();
        turnByEvenOrOdd();
        areasOfHoles();
        areasOfWhatTouchesItself();
        specksAtTheBound();
        speckBoundsAtTheEnds();
        specksLeaveNoGap();
        liesInNone();
        liesInTheLeast();
        liesInWhatGoesRound();
        liesInItsLayer();
        layersInOrder();
        tracedAgain();
        tracedEmpty();
        aboutAnother();
        pointsAtTheEnds();
        coveredAtTheSides();
        coveredWithoutOne();
        coveredWithoutSpecks();
        end();
    }

    private static void colourZeroIsInNoLayer() {
        sentence("LAYER c has INSIDE all samples of colours from c on, colour 0");
        OutlineCurves x = full(3, 3, 0);
        for (int turn = 0; turn < 4; turn++) {
            due("trace(" + turn + ", 0)", x.trace(turn, 0), 0);
        }
        due("told(3)", x.told(3), 0);
    }

    private static void coloursAreInLayersUpToTheirs() {
        sentence("LAYER c, 1 .. 7, has INSIDE all samples of colours from c on");
        for (int colour = 1; colour <= 7; colour++) {
            OutlineCurves x = full(2, 1, colour);
            due("trace of colour " + colour, x.trace(0, 0), colour);
            for (int outline = 0; outline < colour; outline++) {
                due("about(" + outline + ", 1)", x.about(outline, 1), outline + 1);
                due("about(" + outline + ", 2)", x.about(outline, 2), 2);
            }
        }
        OutlineCurves steps = traced(0, "1234567");
        for (int outline = 0; outline < 7; outline++) {
            due("about(" + outline + ", 2)", steps.about(outline, 2), 7 - outline);
        }
    }

    private static void whatIsNotInThePictureIsOutside() {
        sentence("outside: all others, and what is not in the picture");
        int[][] sizes = {{1, 1}, {1, 16}, {16, 1}, {16, 16}, {3, 5}};
        for (int[] size : sizes) {
            int w = size[0];
            int h = size[1];
            OutlineCurves x = full(w, h, 1);
            due("trace", x.trace(0, 0), 1);
            due("about(0, 0)", x.about(0, 0), 2 * (w + h));
            due("about(0, 2)", x.about(0, 2), w * h);
            due("x of point 0", x.point(0, 0, 0), 0);
            due("y of point 0", x.point(0, 0, 1), 0);
            due("x of the point across", x.point(0, w + h, 0), w);
            due("y of the point across", x.point(0, w + h, 1), h);
            due("x of the last point", x.point(0, 2 * (w + h) - 1, 0), 0);
            due("y of the last point", x.point(0, 2 * (w + h) - 1, 1), 1);
        }
    }

    private static void theInsideLiesToTheRight() {
        sentence("walked along sides between an inside and an outside sample, the inside one to the right");
        OutlineCurves x = traced(0, RING);
        due("points(0)", points(x, 0), "0,0 1,0 2,0 3,0 3,1 3,2 3,3 2,3 1,3 0,3 0,2 0,1");
        due("points(1)", points(x, 1), "1,2 2,2 2,1 1,1");
        due("points of one sample", points(traced(1, "1"), 0), "0,0 1,0 1,1 0,1");
    }

    private static void firstByRowsThenByColumns() {
        sentence("begins at the left end of the first side, by rows and then by columns");
        OutlineCurves x = traced(0, "...1.1", "......", "11..11");
        due("told(3)", x.told(3), 4);
        int[][] firsts = {{3, 0}, {5, 0}, {0, 2}, {4, 2}};
        for (int outline = 0; outline < 4; outline++) {
            due("point(" + outline + ", 0, 0)", x.point(outline, 0, 0), firsts[outline][0]);
            due("point(" + outline + ", 0, 1)", x.point(outline, 0, 1), firsts[outline][1]);
        }
        due("a lower part is more to the left", points(traced(0, ".1", "11"), 0), "1,0 2,0 2,1 2,2 1,2 0,2 0,1 1,1");
    }

    private static void holesBeginWhereTheInsideIsBelow() {
        sentence("the first side that has its inside sample below, of a hole");
        OutlineCurves x = traced(0, "11111", "1...1", "1.111", "11111");
        due("told(3)", x.told(3), 2);
        due("points(1)", points(x, 1), "2,2 3,2 4,2 4,1 3,1 2,1 1,1 1,2 1,3 2,3");
    }

    private static void sidesThatAreInAnOutlineBeginNone() {
        sentence("the first side that is in no outline yet");
        for (int turn = 0; turn < 4; turn++) {
            OutlineCurves x = drawn("1.1.1", "11111");
            due("trace(" + turn + ", 0)", x.trace(turn, 0), 1);
            due("about(0, 0)", x.about(0, 0), 18);
            due("about(0, 2)", x.about(0, 2), 8);
            due("trace(" + turn + ", 7)", x.trace(turn, 7), 1);
            due("trace(" + turn + ", 8)", x.trace(turn, 8), 0);
        }
    }

    /** The hole comes through its first point on the way, along another side. */
    private static void goesOnTillThisSideComesAgain() {
        sentence("goes on till it comes to this side again");
        String[] rows = {"11111", "111.1", "11.11", "11111"};
        OutlineCurves x = drawn(rows);
        due("trace(1, 0)", x.trace(1, 0), 2);
        due("points(1)", points(x, 1), "3,2 4,2 4,1 3,1 3,2 2,2 2,3 3,3");
        due("about(1, 2)", x.about(1, 2), -2);
        due("trace(0, 0)", x.trace(0, 0), 3);
        due("points(1)", points(x, 1), "3,2 4,2 4,1 3,1");
        due("points(2)", points(x, 2), "2,3 3,3 3,2 2,2");
    }

    private static void asManyPointsAsSides() {
        sentence("there are as many points as sides");
        for (int turn = 0; turn < 4; turn++) {
            OutlineCurves x = checks(16, 16, 1);
            int outlines = x.trace(turn, 0);
            int points = 0;
            for (int outline = 0; outline < outlines; outline++) {
                points += x.about(outline, 0);
            }
            due("points by turn " + turn, points, 4 * 128);
        }
    }

    private static void asManyOutlinesAsCanBe() {
        sentence("outlines have numbers from 0 on, the fullest picture");
        OutlineCurves one = full(1, 1, 7);
        due("trace(1, 0) of one sample", one.trace(1, 0), 7);
        due("points of one sample", points(one, 6), "0,0 1,0 1,1 0,1");
        OutlineCurves x = checks(16, 16, 7);
        due("trace(1, 0)", x.trace(1, 0), 7 * 128);
        for (int layer = 1; layer <= 7; layer++) {
            int last = 128 * layer - 1;
            due("about(" + last + ", 0)", x.about(last, 0), 4);
            due("about(" + last + ", 1)", x.about(last, 1), layer);
            due("about(" + last + ", 2)", x.about(last, 2), 1);
            due("point(" + last + ", 2, 0)", x.point(last, 2, 0), 16);
            due("point(" + last + ", 2, 1)", x.point(last, 2, 1), 16);
        }
        dueThrow("about(896, 0)", () -> x.about(896, 0), INDEX);
        // 98 of the other samples do not lie at the edge: they are holes of four of the 512 sides
        due("trace(0, 0)", x.trace(0, 0), 7 * 99);
        due("about(0, 0)", x.about(0, 0), 512 - 4 * 98);
    }

    private static void turnLeftOrRight() {
        sentence("by the TURN it goes to the left (turn 0) or to the right (1)");
        String[][] pictures = {{"1.", ".1"}, {".1", "1."}};
        for (String[] rows : pictures) {
            due("trace(0, 0)", drawn(rows).trace(0, 0), 1);
            due("trace(1, 0)", drawn(rows).trace(1, 0), 2);
        }
        due("left", points(traced(0, "1.", ".1"), 0), "0,0 1,0 1,1 2,1 2,2 1,2 1,1 0,1");
        due("right", points(traced(1, "1.", ".1"), 0), "0,0 1,0 1,1 0,1");
        due("left, the other way", points(traced(0, ".1", "1."), 0), "1,0 2,0 2,1 1,1 1,2 0,2 0,1 1,1");
    }

    private static void turnByEightOrNine() {
        sentence("2: to the left if at most eight of the 16 samples nearest to the point are inside");
        due("eight", drawn("1111", "11..", "1.1.", "....").trace(2, 0), 1);
        due("nine", drawn("1111", "11..", "1.1.", "1...").trace(2, 0), 2);
        due("eight, the other way", drawn("1111", "..11", ".1.1", "....").trace(2, 0), 1);
        due("nine, the other way", drawn("1111", "..11", ".1.1", "...1").trace(2, 0), 2);
        due("the fewest", drawn("....", ".1..", "..1.", "....").trace(2, 0), 1);
        // two outlines, as the two outside samples then are one hole
        due("the most", drawn("1111", "11.1", "1.11", "1111").trace(2, 0), 2);
    }

    /** The point is (3, 3), with eight inside of the 16; to the right there would be one outline more. */
    private static void turnBySixteen() {
        sentence("2: the 16 samples nearest to the point, no others");
        due("none beside", drawn("......", ".1111.", ".11...", ".1.1..", "......", "......").trace(2, 0), 1);
        due("above", drawn(".1111.", ".1111.", ".11...", ".1.1..", "......", "......").trace(2, 0), 1);
        due("below", drawn("......", ".1111.", ".11...", ".1.1..", "......", ".1111.").trace(2, 0), 2);
        due("to the left", drawn("......", "11111.", "111...", "11.1..", "......", "......").trace(2, 0), 1);
        due("to the right", drawn("......", ".11111", ".11..1", ".1.1.1", "......", "......").trace(2, 0), 1);
    }

    private static void turnBySamplesBeyondThePicture() {
        sentence("2: of the 16 samples nearest, those that are not in the picture are outside");
        due("in a corner", drawn("1.", ".1").trace(2, 0), 1);
        // to the left the outside sample (1, 1) is a hole, to the right it is none
        due("eight at the upper edge", drawn("11..", "1.11", "111.").trace(2, 0), 2);
        due("nine at the upper edge", drawn("11..", "1.11", "1111").trace(2, 0), 1);
        due("eight at the left edge", drawn("111", "1.1", ".11", ".1.").trace(2, 0), 2);
        due("nine at the left edge", drawn("111", "1.1", ".11", ".11").trace(2, 0), 1);
        due("eight at the lower edge", drawn("111.", "1.11", "11..").trace(2, 0), 2);
        due("nine at the lower edge", drawn("1111", "1.11", "11..").trace(2, 0), 1);
        due("eight at the right edge", drawn("111", "1.1", "11.", ".1.").trace(2, 0), 2);
        due("nine at the right edge", drawn("111", "1.1", "11.", "11.").trace(2, 0), 1);
    }

    private static void turnByEvenOrOdd() {
        sentence("3: to the left if x + y is even, else to the right");
        due("(1, 1)", drawn("1..", ".1.", "...").trace(3, 0), 1);
        due("(2, 1)", drawn(".1.", "..1", "...").trace(3, 0), 2);
        due("(1, 2)", drawn("...", "1..", ".1.").trace(3, 0), 2);
        due("(2, 2)", drawn("...", "..1", ".1.").trace(3, 0), 1);
        due("(2, 1), the other way", drawn("..1", ".1.", "...").trace(3, 0), 2);
    }

    private static void areasOfHoles() {
        sentence("AREA is how many samples it goes round, below 0 if it is a HOLE");
        OutlineCurves x = traced(0, "11111", "1...1", "1.1.1", "1...1", "11111");
        due("told(3)", x.told(3), 3);
        due("about(0, 2)", x.about(0, 2), 25);
        due("about(1, 2)", x.about(1, 2), 1);
        due("about(2, 2)", x.about(2, 2), -9);
        OutlineCurves largest = full(16, 16, 1);
        for (int row = 1; row < 15; row++) {
            largest.put(1, row, 14, 0);
        }
        largest.trace(0, 0);
        due("the largest hole", largest.about(1, 2), -196);
        due("round the largest hole", largest.about(0, 2), 256);
    }

    private static void areasOfWhatTouchesItself() {
        sentence("AREA is how many samples it goes round, where it touches itself");
        OutlineCurves x = drawn(".1.", "1.1", ".1.");
        due("trace(0, 0)", x.trace(0, 0), 2);
        due("about(0, 0)", x.about(0, 0), 12);
        due("about(0, 2)", x.about(0, 2), 5);
        due("about(1, 2)", x.about(1, 2), -1);
        due("trace(1, 0)", x.trace(1, 0), 4);
        for (int outline = 0; outline < 4; outline++) {
            due("about(" + outline + ", 2)", x.about(outline, 2), 1);
        }
    }

    private static void specksAtTheBound() {
        sentence("A SPECK's area, without sign, is not above a bound: it is left out");
        OutlineCurves x = drawn("1111", "1..1", "1111");
        due("trace(0, 1)", x.trace(0, 1), 2);
        due("about(1, 2)", x.about(1, 2), -2);
        due("trace(0, 2), the hole's own area", x.trace(0, 2), 1);
        due("about(0, 2)", x.about(0, 2), 12);
        due("trace(0, 11)", x.trace(0, 11), 1);
        due("trace(0, 12), its own area", x.trace(0, 12), 0);
        due("told(3)", x.told(3), 0);
    }

    private static void speckBoundsAtTheEnds() {
        sentence("a turn 0 .. 3 and a bound for specks, 0 .. 256");
        OutlineCurves one = full(1, 1, 1);
        due("trace(0, 0) of the smallest", one.trace(0, 0), 1);
        due("trace(0, 1) of the smallest", one.trace(0, 1), 0);
        OutlineCurves all = full(16, 16, 7);
        due("trace(3, 255) of the largest", all.trace(3, 255), 7);
        due("trace(3, 256) of the largest", all.trace(3, 256), 0);
        for (int turn : new int[] {-1, 4, 5, Integer.MIN_VALUE, Integer.MAX_VALUE}) {
            dueThrow("trace(" + turn + ", 0)", () -> all.trace(turn, 0), ARGUMENT);
        }
        for (int speck : new int[] {-1, 257, Integer.MIN_VALUE, Integer.MAX_VALUE}) {
            dueThrow("trace(0, " + speck + ")", () -> all.trace(0, speck), ARGUMENT);
        }
    }

    private static void specksLeaveNoGap() {
        sentence("specks are left out; outlines have numbers from 0 on");
        OutlineCurves x = drawn("1.22.1", "......", "333..1", "......");
        due("trace(0, 1)", x.trace(0, 1), 5);
        int[][] kept = {{1, 2, 2, 0}, {1, 3, 0, 2}, {2, 2, 2, 0}, {2, 3, 0, 2}, {3, 3, 0, 2}};
        for (int outline = 0; outline < 5; outline++) {
            due("about(" + outline + ", 1)", x.about(outline, 1), kept[outline][0]);
            due("about(" + outline + ", 2)", x.about(outline, 2), kept[outline][1]);
            due("point(" + outline + ", 0, 0)", x.point(outline, 0, 0), kept[outline][2]);
            due("point(" + outline + ", 0, 1)", x.point(outline, 0, 1), kept[outline][3]);
        }
        dueThrow("about(5, 0)", () -> x.about(5, 0), INDEX);
    }

    private static void liesInNone() {
        sentence("the outline that it lies in, or NONE");
        OutlineCurves x = traced(1, "1.1", "...", "1.1");
        for (int outline = 0; outline < 4; outline++) {
            due("about(" + outline + ", 3)", x.about(outline, 3), -1);
        }
        // the sample above its first side is not in the picture
        due("of the full picture", traced(0, "11", "11").about(0, 3), -1);
        due("below an outline that is no hole", traced(0, "111", "...", ".1.").about(1, 3), -1);
    }

    private static void liesInTheLeast() {
        sentence("LIES IN: the one of the least area without sign");
        OutlineCurves x = traced(0,
                "111111111",
                "1.......1",
                "1.11111.1",
                "1.1...1.1",
                "1.1.1.1.1",
                "1.1...1.1",
                "1.11111.1",
                "1.......1",
                "111111111");
        int[][] dueOf = {{81, -1}, {25, 4}, {1, 3}, {-9, 1}, {-49, 0}};
        for (int outline = 0; outline < 5; outline++) {
            due("about(" + outline + ", 2)", x.about(outline, 2), dueOf[outline][0]);
            due("about(" + outline + ", 3)", x.about(outline, 3), dueOf[outline][1]);
        }
        due("of the smallest hole", traced(0, RING).about(1, 3), 0);
    }

    private static void liesInWhatGoesRound() {
        sentence("LIES IN: outlines that go round the sample above its first side (for a hole the one below)");
        OutlineCurves x = traced(0, "11111.11111", "1...1.1...1", "1.1.1.1.1.1", "1...1.1...1", "11111.11111");
        int[] dueOf = {-1, -1, 4, 5, 0, 1};
        for (int outline = 0; outline < 6; outline++) {
            due("about(" + outline + ", 3)", x.about(outline, 3), dueOf[outline]);
        }
    }

    private static void liesInItsLayer() {
        sentence("LIES IN: of the outlines of its layer that were not left out");
        OutlineCurves x = drawn("11111", "1...1", "1.7.1", "1...1", "11111");
        due("trace(0, 0)", x.trace(0, 0), 9);
        due("about(1, 3), layer 1", x.about(1, 3), 2);
        for (int outline = 3; outline < 9; outline++) {
            due("about(" + outline + ", 3)", x.about(outline, 3), -1);
        }
        OutlineCurves both = drawn("22222", "2...2", "2.2.2", "2...2", "22222");
        due("trace(0, 0)", both.trace(0, 0), 6);
        int[] dueOf = {-1, 2, 0, -1, 5, 3};
        for (int outline = 0; outline < 6; outline++) {
            due("about(" + outline + ", 3)", both.about(outline, 3), dueOf[outline]);
        }
        due("trace(0, 1)", both.trace(0, 1), 4);
        due("about(1, 3), the number without specks", both.about(1, 3), 0);
        due("about(3, 3), the number without specks", both.about(3, 3), 2);
    }

    private static void layersInOrder() {
        sentence("TRACING makes the outlines of all layers, from layer 1 on, as they were begun");
        OutlineCurves x = traced(0, "..1", "...", "3.2");
        int[][] dueOf = {{1, 2, 0}, {1, 0, 2}, {1, 2, 2}, {2, 0, 2}, {2, 2, 2}, {3, 0, 2}};
        due("told(3)", x.told(3), 6);
        for (int outline = 0; outline < 6; outline++) {
            due("about(" + outline + ", 1)", x.about(outline, 1), dueOf[outline][0]);
            due("point(" + outline + ", 0, 0)", x.point(outline, 0, 0), dueOf[outline][1]);
            due("point(" + outline + ", 0, 1)", x.point(outline, 0, 1), dueOf[outline][2]);
        }
    }

    private static void tracedAgain() {
        sentence("trace: no polygon is at hand then");
        OutlineCurves x = traced(0, "11", "11");
        x.polygon(0, 1);
        x.curves(0, 0);
        due("trace(0, 0) as before", x.trace(0, 0), 1);
        for (int what = 4; what <= 6; what++) {
            due("told(" + what + ")", x.told(what), 0);
        }
        dueThrow("corner(0, 0)", () -> x.corner(0, 0), STATE);
        dueThrow("curves(0, 0)", () -> x.curves(0, 0), STATE);
        dueThrow("curve(0, 0)", () -> x.curve(0, 0), STATE);
        due("trace(0, 256)", x.trace(0, 256), 0);
        due("trace(0, 0)", x.trace(0, 0), 1);
        due("about(0, 0)", x.about(0, 0), 8);
    }

    private static void tracedEmpty() {
        sentence("IndexOutOfBounds: there is no such outline, of an empty tracing");
        OutlineCurves x = new OutlineCurves(2, 2);
        due("trace(0, 0)", x.trace(0, 0), 0);
        dueThrow("about(0, 0)", () -> x.about(0, 0), INDEX);
        dueThrow("point(0, 0, 0)", () -> x.point(0, 0, 0), INDEX);
        dueThrow("piece(0, 0, 1, 1)", () -> x.piece(0, 0, 1, 1), INDEX);
        dueThrow("polygon(0, 1)", () -> x.polygon(0, 1), INDEX);
        due("covered(1, 1)", x.covered(1, 1), 0);
        dueThrow("corner(0, 0)", () -> x.corner(0, 0), STATE);
    }

    private static void aboutAnother() {
        sentence("about: NONE for another what");
        OutlineCurves x = traced(0, RING);
        for (int what : new int[] {-1, 4, 5, Integer.MIN_VALUE, Integer.MAX_VALUE}) {
            due("about(0, " + what + ")", x.about(0, what), -1);
            due("about(1, " + what + ")", x.about(1, what), -1);
            dueThrow("about(2, " + what + ")", () -> x.about(2, what), INDEX);
            dueThrow("about(-1, " + what + ")", () -> x.about(-1, what), INDEX);
        }
    }

    private static void pointsAtTheEnds() {
        sentence("point: there is no such outline, point; the x (axis = 0), or y (1)");
        OutlineCurves x = traced(0, "..1", "...", "1..");
        due("point(0, 3, 0)", x.point(0, 3, 0), 2);
        due("point(0, 3, 1)", x.point(0, 3, 1), 1);
        due("point(1, 3, 0)", x.point(1, 3, 0), 0);
        due("point(1, 3, 1)", x.point(1, 3, 1), 3);
        for (int i : new int[] {-1, 4, 8, Integer.MIN_VALUE, Integer.MAX_VALUE}) {
            dueThrow("point(0, " + i + ", 0)", () -> x.point(0, i, 0), INDEX);
            dueThrow("point(1, " + i + ", 1)", () -> x.point(1, i, 1), INDEX);
        }
        for (int outline : new int[] {-1, 2, Integer.MIN_VALUE, Integer.MAX_VALUE}) {
            dueThrow("point(" + outline + ", 0, 0)", () -> x.point(outline, 0, 0), INDEX);
        }
        for (int axis : new int[] {-1, 2, Integer.MIN_VALUE, Integer.MAX_VALUE}) {
            dueThrow("point(0, 0, " + axis + ")", () -> x.point(0, 0, axis), ARGUMENT);
        }
    }

    private static void coveredAtTheSides() {
        sentence("COVERED: an odd number of upright sides of its outlines to the left of it in its row");
        OutlineCurves x = traced(0, "1.1.", ".11.", "7..7");
        String[] rows = {"1010", "0110", "7007"};
        for (int y = 0; y < 3; y++) {
            for (int column = 0; column < 4; column++) {
                due("covered(" + column + ", " + y + ")", x.covered(column, y), rows[y].charAt(column) - '0');
            }
        }
        OutlineCurves all = full(16, 16, 7);
        all.trace(0, 0);
        due("covered(0, 0)", all.covered(0, 0), 7);
        due("covered(15, 15)", all.covered(15, 15), 7);
        for (int beyond : new int[] {-1, 16, Integer.MIN_VALUE, Integer.MAX_VALUE}) {
            dueThrow("covered(" + beyond + ", 0)", () -> all.covered(beyond, 0), INDEX);
            dueThrow("covered(0, " + beyond + ")", () -> all.covered(0, beyond), INDEX);
        }
    }

    private static void coveredWithoutOne() {
        sentence("COVERED: 0 without one");
        OutlineCurves x = new OutlineCurves(2, 2);
        x.trace(0, 0);
        due("covered(0, 0)", x.covered(0, 0), 0);
        OutlineCurves all = full(16, 16, 7);
        all.trace(0, 256);
        due("covered(0, 0), all left out", all.covered(0, 0), 0);
        due("covered(15, 15), all left out", all.covered(15, 15), 0);
    }

    private static void coveredWithoutSpecks() {
        sentence("COVERED: the greatest layer by its outlines, not by those that were left out");
        OutlineCurves x = drawn(RING);
        x.trace(0, 1);
        due("covered(1, 1), the hole left out", x.covered(1, 1), 1);
        x.trace(0, 0);
        due("covered(1, 1), the hole kept", x.covered(1, 1), 0);
        OutlineCurves peak = drawn("333", "373", "333");
        peak.trace(0, 0);
        due("covered(1, 1)", peak.covered(1, 1), 7);
        peak.trace(0, 1);
        due("covered(1, 1), the peak left out", peak.covered(1, 1), 3);
        peak.trace(0, 9);
        due("covered(1, 1), all left out", peak.covered(1, 1), 0);
    }
}
