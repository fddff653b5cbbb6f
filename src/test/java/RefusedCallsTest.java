import java.util.ArrayList;
import java.util.List;

/**
 * Every kind of call that is refused, in every state: which exception it throws, which one first, and that it
 * changes nothing.
 */
public final class RefusedCallsTest extends Due {
    /* What a call needs, and how far an object is: each state has what those before it have. */
    private static final int NEW = 0;
    private static final int TRACED = 1;
    private static final int POLYGON = 2;
    private static final int CURVES = 3;
    private static final String[] STATES = {"untraced", "traced", "with a polygon", "with curves"};
    /* A call that nothing is wrong with once the state is there. */
    private static final int NOTHING = 0;

    private interface Made {
        int on(OutlineCurves x);
    }

    private static final class Refusal {
        final String call;
        final int needs;
        final int thrown;
        final Made made;

        Refusal(String call, int needs, int thrown, Made made) {
            this.call = call;
            this.needs = needs;
            this.thrown = thrown;
            this.made = made;
        }
    }

    private static final List<Refusal> REFUSALS = new ArrayList<>();

    public static void main(String[] args) {
        puts();
        traces();
        abouts();
        points();
        covereds();
        pieces();
        polygons();
        cornersOf();
        curvesOf();
        curvesAt();
        places();
        nears();
        for (int state = NEW; state <= CURVES; state++) {
            for (Refusal refusal : REFUSALS) {
                refuse(refusal, state);
            }
        }
        emptyTracing();
        end();
    }

    private static void add(String call, int needs, int thrown, Made made) {
        REFUSALS.add(new Refusal(call, needs, thrown, made));
    }

    /** A picture of 3 x 2 with an outline of 8 points, another layer, and what its polygon and curves need. */
    private static OutlineCurves in(int state) {
        OutlineCurves x = drawn("12.", "1..");
        if (state >= TRACED) {
            x.trace(0, 0);
        }
        if (state >= POLYGON) {
            x.polygon(0, 1);
        }
        if (state >= CURVES) {
            x.curves(64, 0);
        }
        return x;
    }

    private static void refuse(Refusal refusal, int state) {
        int want = state < refusal.needs ? STATE : refusal.thrown;
        if (want == NOTHING) {
            return;
        }
        OutlineCurves x = in(state);
        String before = all(x, state);
        sentence("Of several that a call names, the first one");
        dueThrow(refusal.call + " " + STATES[state], () -> refusal.made.on(x), want);
        sentence("A call that throws changes nothing: " + refusal.call + " " + STATES[state]);
        due("all answers", all(x, state), before);
        x.trace(0, 0);
        due("the picture", picture(x), "120100");
    }

    /** All that an object answers without being traced anew. */
    private static String all(OutlineCurves x, int state) {
        StringBuilder row = new StringBuilder();
        for (int what = 0; what <= 6; what++) {
            row.append(x.told(what)).append(' ');
        }
        for (int outline = 0; state >= TRACED && outline < x.told(3); outline++) {
            row.append(x.about(outline, 1)).append(' ').append(x.about(outline, 2)).append(' ');
            row.append(x.about(outline, 3)).append(": ").append(points(x, outline)).append('\n');
        }
        for (int what = 0; state >= POLYGON && what <= 4; what++) {
            row.append(corners(x, what)).append('\n');
        }
        for (int k = 0; state >= CURVES && k < x.told(6); k++) {
            for (int what = 0; what <= 10; what++) {
                row.append(x.curve(k, what)).append(' ');
            }
        }
        return row.append(state >= TRACED ? picture(x) : "").toString();
    }

    private static String picture(OutlineCurves x) {
        StringBuilder row = new StringBuilder();
        for (int sample = 0; sample < 6; sample++) {
            row.append(x.covered(sample % 3, sample / 3));
        }
        return row.toString();
    }

    private static void puts() {
        int[][] beyond = {{-1, 0}, {3, 0}, {0, -1}, {0, 2}, {3, 2}, {Integer.MIN_VALUE, 0}, {Integer.MAX_VALUE, 0},
            {0, Integer.MIN_VALUE}, {0, Integer.MAX_VALUE}};
        for (int[] at : beyond) {
            String sample = "put(" + at[0] + ", " + at[1];
            add(sample + ", 1, 5)", NEW, INDEX, x -> x.put(at[0], at[1], 1, 5));
            add(sample + ", 9, 5)", NEW, INDEX, x -> x.put(at[0], at[1], 9, 5));
            add(sample + ", 0, 5)", NEW, INDEX, x -> x.put(at[0], at[1], 0, 5));
            add(sample + ", 1, 8)", NEW, INDEX, x -> x.put(at[0], at[1], 1, 8));
        }
        for (int n : new int[] {0, -1, Integer.MIN_VALUE}) {
            add("put(0, 0, " + n + ", 5)", NEW, ARGUMENT, x -> x.put(0, 0, n, 5));
            add("put(2, 1, " + n + ", 9)", NEW, ARGUMENT, x -> x.put(2, 1, n, 9));
        }
        for (int colour : new int[] {-1, 8, Integer.MIN_VALUE, Integer.MAX_VALUE}) {
            add("put(0, 0, 3, " + colour + ")", NEW, ARGUMENT, x -> x.put(0, 0, 3, colour));
        }
    }

    private static void traces() {
        for (int turn : new int[] {-1, 4, Integer.MIN_VALUE, Integer.MAX_VALUE}) {
            add("trace(" + turn + ", 0)", NEW, ARGUMENT, x -> x.trace(turn, 0));
            add("trace(" + turn + ", 257)", NEW, ARGUMENT, x -> x.trace(turn, 257));
        }
        for (int speck : new int[] {-1, 257, Integer.MIN_VALUE, Integer.MAX_VALUE}) {
            add("trace(0, " + speck + ")", NEW, ARGUMENT, x -> x.trace(0, speck));
            add("trace(3, " + speck + ")", NEW, ARGUMENT, x -> x.trace(3, speck));
        }
    }

    /** There are two outlines. */
    private static void abouts() {
        add("about(0, 0)", TRACED, NOTHING, x -> x.about(0, 0));
        for (int outline : new int[] {-1, 2, Integer.MIN_VALUE, Integer.MAX_VALUE}) {
            add("about(" + outline + ", 0)", TRACED, INDEX, x -> x.about(outline, 0));
            add("about(" + outline + ", 9)", TRACED, INDEX, x -> x.about(outline, 9));
        }
    }

    /** The first outline has eight points, the second four. */
    private static void points() {
        add("point(0, 0, 0)", TRACED, NOTHING, x -> x.point(0, 0, 0));
        for (int odd : new int[] {-1, 8, Integer.MIN_VALUE, Integer.MAX_VALUE}) {
            add("point(" + odd + ", 0, 0)", TRACED, INDEX, x -> x.point(odd, 0, 0));
            add("point(0, " + odd + ", 0)", TRACED, INDEX, x -> x.point(0, odd, 0));
            add("point(0, " + odd + ", 2)", TRACED, INDEX, x -> x.point(0, odd, 2));
            add("point(" + odd + ", " + odd + ", 2)", TRACED, INDEX, x -> x.point(odd, odd, 2));
            add("point(0, 0, " + odd + ")", TRACED, ARGUMENT, x -> x.point(0, 0, odd));
        }
        add("point(1, 4, 0)", TRACED, INDEX, x -> x.point(1, 4, 0));
        add("point(0, 0, 2)", TRACED, ARGUMENT, x -> x.point(0, 0, 2));
    }

    private static void covereds() {
        add("covered(0, 0)", TRACED, NOTHING, x -> x.covered(0, 0));
        for (int odd : new int[] {-1, 3, Integer.MIN_VALUE, Integer.MAX_VALUE}) {
            add("covered(" + odd + ", 0)", TRACED, INDEX, x -> x.covered(odd, 0));
            add("covered(0, " + odd + ")", TRACED, INDEX, x -> x.covered(0, odd));
            add("covered(" + odd + ", " + odd + ")", TRACED, INDEX, x -> x.covered(odd, odd));
        }
        add("covered(0, 2)", TRACED, INDEX, x -> x.covered(0, 2));
    }

    private static void pieces() {
        add("piece(0, 0, 1, 1)", TRACED, NOTHING, x -> x.piece(0, 0, 1, 1));
        for (int odd : new int[] {-1, 25, Integer.MIN_VALUE, Integer.MAX_VALUE}) {
            add("piece(" + odd + ", 0, 1, 1)", TRACED, INDEX, x -> x.piece(odd, 0, 1, 1));
            add("piece(0, " + odd + ", 1, 1)", TRACED, INDEX, x -> x.piece(0, odd, 1, 1));
            add("piece(0, " + odd + ", 0, 9)", TRACED, INDEX, x -> x.piece(0, odd, 0, 9));
            add("piece(" + odd + ", 0, 0, 9)", TRACED, INDEX, x -> x.piece(odd, 0, 0, 9));
            add("piece(0, 0, " + odd + ", 1)", TRACED, ARGUMENT, x -> x.piece(0, 0, odd, 1));
            add("piece(0, 0, 1, " + odd + ")", TRACED, ARGUMENT, x -> x.piece(0, 0, 1, odd));
        }
        add("piece(1, 4, 1, 1)", TRACED, INDEX, x -> x.piece(1, 4, 1, 1));
        add("piece(0, 0, 0, 1)", TRACED, ARGUMENT, x -> x.piece(0, 0, 0, 1));
        add("piece(0, 0, 1, 0)", TRACED, ARGUMENT, x -> x.piece(0, 0, 1, 0));
        add("piece(0, 0, 1, 9)", TRACED, ARGUMENT, x -> x.piece(0, 0, 1, 9));
    }

    private static void polygons() {
        add("polygon(0, 1)", TRACED, NOTHING, x -> x.polygon(0, 1));
        for (int odd : new int[] {-1, 9, Integer.MIN_VALUE, Integer.MAX_VALUE}) {
            add("polygon(" + odd + ", 2)", TRACED, INDEX, x -> x.polygon(odd, 2));
            add("polygon(" + odd + ", 0)", TRACED, INDEX, x -> x.polygon(odd, 0));
            add("polygon(1, " + odd + ")", TRACED, ARGUMENT, x -> x.polygon(1, odd));
        }
        add("polygon(2, 2)", TRACED, INDEX, x -> x.polygon(2, 2));
        add("polygon(1, 0)", TRACED, ARGUMENT, x -> x.polygon(1, 0));
    }

    private static void cornersOf() {
        add("corner(0, 0)", POLYGON, NOTHING, x -> x.corner(0, 0));
        add("corner(0, 9)", POLYGON, NOTHING, x -> x.corner(0, 9));
        for (int k : new int[] {-1, 8, Integer.MIN_VALUE, Integer.MAX_VALUE}) {
            add("corner(" + k + ", 0)", POLYGON, INDEX, x -> x.corner(k, 0));
            add("corner(" + k + ", 5)", POLYGON, INDEX, x -> x.corner(k, 5));
        }
        add("corner(behind the last, 0)", POLYGON, INDEX, x -> x.corner(x.told(4), 0));
    }

    private static void curvesOf() {
        add("curves(0, 0)", POLYGON, NOTHING, x -> x.curves(0, 0));
        for (int odd : new int[] {-1, 66, Integer.MIN_VALUE, Integer.MAX_VALUE}) {
            add("curves(" + odd + ", 0)", POLYGON, ARGUMENT, x -> x.curves(odd, 0));
            add("curves(0, " + odd + ")", POLYGON, ARGUMENT, x -> x.curves(0, odd));
        }
        add("curves(65, 65)", POLYGON, ARGUMENT, x -> x.curves(65, 65));
    }

    private static void curvesAt() {
        add("curve(0, 0)", CURVES, NOTHING, x -> x.curve(0, 0));
        add("curve(0, 11)", CURVES, NOTHING, x -> x.curve(0, 11));
        for (int k : new int[] {-1, 8, Integer.MIN_VALUE, Integer.MAX_VALUE}) {
            add("curve(" + k + ", 3)", CURVES, INDEX, x -> x.curve(k, 3));
            add("curve(" + k + ", 11)", CURVES, INDEX, x -> x.curve(k, 11));
        }
        add("curve(behind the last, 0)", CURVES, INDEX, x -> x.curve(x.told(6), 0));
    }

    private static void places() {
        add("place(0, 0, 0)", CURVES, NOTHING, x -> x.place(0, 0, 0));
        for (int odd : new int[] {-1, 9, Integer.MIN_VALUE, Integer.MAX_VALUE}) {
            add("place(" + odd + ", 0, 0)", CURVES, INDEX, x -> x.place(odd, 0, 0));
            add("place(" + odd + ", 9, 2)", CURVES, INDEX, x -> x.place(odd, 9, 2));
            add("place(0, " + odd + ", 0)", CURVES, ARGUMENT, x -> x.place(0, odd, 0));
            add("place(0, 0, " + odd + ")", CURVES, ARGUMENT, x -> x.place(0, 0, odd));
        }
        add("place(behind the last, 0, 0)", CURVES, INDEX, x -> x.place(x.told(6), 0, 0));
        add("place(0, 8, 2)", CURVES, ARGUMENT, x -> x.place(0, 8, 2));
    }

    private static void nears() {
        add("near(0, 0, 0)", CURVES, NOTHING, x -> x.near(0, 0, 0) ? 1 : 0);
        for (int odd : new int[] {-1, 65, Integer.MIN_VALUE, Integer.MAX_VALUE}) {
            add("near(" + odd + ", 0, 0)", CURVES, INDEX, x -> x.near(odd, 0, 0) ? 1 : 0);
            add("near(" + odd + ", 9, 65)", CURVES, INDEX, x -> x.near(odd, 9, 65) ? 1 : 0);
            add("near(0, " + odd + ", 0)", CURVES, ARGUMENT, x -> x.near(0, odd, 0) ? 1 : 0);
            add("near(0, 0, " + odd + ")", CURVES, ARGUMENT, x -> x.near(0, 0, odd) ? 1 : 0);
        }
        add("near(behind the last, 0, 0)", CURVES, INDEX, x -> x.near(x.told(6), 0, 0) ? 1 : 0);
        add("near(0, 9, 0)", CURVES, ARGUMENT, x -> x.near(0, 9, 0) ? 1 : 0);
    }

    /** Where nothing is inside, something was traced all the same: an index is wrong, the state is not. */
    private static void emptyTracing() {
        sentence("IllegalState: nothing was traced, but not where no outline was found");
        for (int state = NEW; state <= TRACED; state++) {
            OutlineCurves x = new OutlineCurves(2, 2);
            int want = state == NEW ? STATE : INDEX;
            if (state == TRACED) {
                due("trace(0, 0)", x.trace(0, 0), 0);
            }
            dueThrow("about(0, 0)", () -> x.about(0, 0), want);
            dueThrow("point(0, 0, 9)", () -> x.point(0, 0, 9), want);
            dueThrow("covered(2, 0)", () -> x.covered(2, 0), want);
            dueThrow("piece(0, 0, 0, 0)", () -> x.piece(0, 0, 0, 0), want);
            dueThrow("polygon(0, 0)", () -> x.polygon(0, 0), want);
            dueThrow("corner(0, 0)", () -> x.corner(0, 0), STATE);
            dueThrow("curves(0, 0)", () -> x.curves(0, 0), STATE);
        }
    }
}
