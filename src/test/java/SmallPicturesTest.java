import java.util.ArrayList;
import java.util.List;

/** All one-coloured pictures of some small sizes: outlines, polygons and curves are compared with the Reference's. */
public final class SmallPicturesTest extends Due {
    private static final int[][] SIZES = {{1, 1}, {4, 1}, {1, 4}, {2, 2}, {4, 2}, {2, 4}, {3, 3}};
    private static final int[] STIFFNESS = {1, 2, 4, 8};
    private static final int[] SHARP = {0, 33, 64, 65, 65, 65, 65, 65, 65};
    private static final int[] ERRORS = {0, 9, 16, 0, 3, 7, 11, 15, 64};
    private static int pictures = 0;

    public static void main(String[] args) {
        for (int[] size : SIZES) {
            for (int bits = 0; bits < 1 << (size[0] * size[1]); bits++) {
                compare(size[0], size[1], bits);
            }
        }
        System.out.println(pictures + " pictures");
        end();
    }

    private static void compare(int width, int height, int bits) {
        sentence("picture " + width + " x " + height + ", bits " + bits);
        pictures++;
        OutlineCurves program = new OutlineCurves(width, height);
        Reference reference = new Reference(width, height);
        for (int sample = 0; sample < width * height; sample++) {
            if ((bits >> sample & 1) == 1) {
                program.put(sample % width, sample / width, 1, 1);
                reference.put(sample % width, sample / width, 1, 1);
            }
        }
        for (int turn = 0; turn < 4; turn++) {
            due("trace(" + turn + ", 0)", program.trace(turn, 0), reference.trace(turn, 0));
            for (int outline = 0; outline < reference.told(3); outline++) {
                compareOutline(program, reference, outline);
            }
        }
    }

    private static void compareOutline(OutlineCurves program, Reference reference, int outline) {
        for (int what = 0; what < 4; what++) {
            due("about(" + outline + ", " + what + ")", program.about(outline, what), reference.about(outline, what));
        }
        for (int i = 0; i < reference.about(outline, 0); i++) {
            for (int axis = 0; axis < 2; axis++) {
                due("point(" + outline + ", " + i + ", " + axis + ")",
                        program.point(outline, i, axis), reference.point(outline, i, axis));
            }
        }
        for (int stiffness : STIFFNESS) {
            due("polygon(" + outline + ", " + stiffness + ")",
                    program.polygon(outline, stiffness), reference.polygon(outline, stiffness));
            due("the polygon", polygonOf(program), polygonOf(reference));
            for (int i = 0; i < ERRORS.length; i++) {
                due("curves(" + SHARP[i] + ", " + ERRORS[i] + ")",
                        program.curves(SHARP[i], ERRORS[i]), reference.curves(SHARP[i], ERRORS[i]));
                due("the curves for " + SHARP[i] + " and " + ERRORS[i], curvesOf(program), curvesOf(reference));
            }
        }
    }

    private static String polygonOf(OutlineCurves x) {
        List<Integer> row = new ArrayList<>();
        row.add(x.told(5));
        for (int k = 0; k < x.told(4); k++) {
            for (int what = 0; what < 5; what++) {
                row.add(x.corner(k, what));
            }
        }
        return row.toString();
    }

    private static String polygonOf(Reference x) {
        List<Integer> row = new ArrayList<>();
        row.add(x.told(5));
        for (int k = 0; k < x.told(4); k++) {
            for (int what = 0; what < 5; what++) {
                row.add(x.corner(k, what));
            }
        }
        return row.toString();
    }

    private static String curvesOf(OutlineCurves x) {
        List<Integer> row = new ArrayList<>();
        for (int k = 0; k < x.told(6); k++) {
            for (int what = 0; what <= 10; what++) {
                row.add(x.curve(k, what));
            }
        }
        return row.toString();
    }

    private static String curvesOf(Reference x) {
        List<Integer> row = new ArrayList<>();
        for (int k = 0; k < x.told(6); k++) {
            for (int what = 0; what <= 10; what++) {
                row.add(x.curve(k, what));
            }
        }
        return row.toString();
    }
}
