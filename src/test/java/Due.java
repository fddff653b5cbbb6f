/** What the tests share: pictures, comparing answers, and the exception that a call must throw. */
abstract class Due {
    static final int STATE = 1;
    static final int INDEX = 2;
    static final int ARGUMENT = 3;
    /* Numbers that are no index, no argument and no what of any call. */
    static final int[] ODD = {Integer.MIN_VALUE, -2, -1, Integer.MAX_VALUE};

    private static int wrong = 0;
    private static String sentence = "";

    interface Call {
        int answer();
    }

    /** The promise or the sentence of the document that the checks behind it are for. */
    static void sentence(String words) {
        sentence = words;
    }

    static void due(String call, long got, long want) {
        if (got != want) {
            wrong++;
            System.out.println(sentence + ": " + call + " answered " + got + ", due is " + want);
        }
    }

    static void due(String call, boolean got, boolean want) {
        due(call, got ? 1 : 0, want ? 1 : 0);
    }

    static void due(String call, String got, String want) {
        if (!got.equals(want)) {
            wrong++;
            System.out.println(sentence + ": " + call + " answered " + got + ", due is " + want);
        }
    }

    /** The exception must be of the very class, so that none of the machine's own passes for it. */
    static void dueThrow(String call, Call made, int want) {
        int got = 0;
        try {
            made.answer();
        } catch (RuntimeException e) {
            got = e.getClass() == IllegalStateException.class ? STATE
                    : e.getClass() == IndexOutOfBoundsException.class ? INDEX
                    : e.getClass() == IllegalArgumentException.class ? ARGUMENT : 4;
        }
        due(call + " throws (1 state, 2 index, 3 argument)", got, want);
    }

    static void end() {
        System.out.println(wrong == 0 ? "all answers are as due" : wrong + " answers are not as due");
        if (wrong != 0) {
            System.exit(1);
        }
    }

    static OutlineCurves drawn(String... rows) {
        OutlineCurves x = new OutlineCurves(rows[0].length(), rows.length);
        for (int row = 0; row < rows.length; row++) {
            for (int column = 0; column < rows[row].length(); column++) {
                if (rows[row].charAt(column) != '.') {
                    x.put(column, row, 1, rows[row].charAt(column) - '0');
                }
            }
        }
        return x;
    }

    static OutlineCurves traced(int turn, String... rows) {
        OutlineCurves x = drawn(rows);
        x.trace(turn, 0);
        return x;
    }

    static OutlineCurves full(int width, int height, int colour) {
        OutlineCurves x = new OutlineCurves(width, height);
        for (int row = 0; row < height; row++) {
            x.put(0, row, width, colour);
        }
        return x;
    }

    static OutlineCurves checks(int width, int height, int colour) {
        OutlineCurves x = new OutlineCurves(width, height);
        for (int row = 0; row < height; row++) {
            for (int column = row % 2; column < width; column += 2) {
                x.put(column, row, 1, colour);
            }
        }
        return x;
    }

    /** The points of an outline, "x,y x,y ..". */
    static String points(OutlineCurves x, int outline) {
        StringBuilder row = new StringBuilder();
        for (int i = 0; i < x.about(outline, 0); i++) {
            row.append(i == 0 ? "" : " ").append(x.point(outline, i, 0)).append(',').append(x.point(outline, i, 1));
        }
        return row.toString();
    }

    /** One kind of answers about all corners of the polygon at hand. */
    static String corners(OutlineCurves x, int what) {
        StringBuilder row = new StringBuilder();
        for (int k = 0; k < x.told(4); k++) {
            row.append(k == 0 ? "" : " ").append(x.corner(k, what));
        }
        return row.toString();
    }

    /** All curves at hand, each as its first corner, how many, and f: "0+3 f12". */
    static String curves(OutlineCurves x) {
        StringBuilder row = new StringBuilder();
        for (int k = 0; k < x.told(6); k++) {
            row.append(k == 0 ? "" : ", ").append(x.curve(k, 0)).append('+').append(x.curve(k, 1));
            row.append(" f").append(x.curve(k, 2));
        }
        return row.toString();
    }
}
