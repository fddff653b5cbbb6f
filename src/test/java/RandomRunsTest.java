import java.util.Random;

/** Runs of many kinds of pictures and calls, wrong ones too, each answer compared with the Reference's. */
public final class RandomRunsTest {
    private static final int RUNS = 500;
    private static final int CALLS = 500;

    private final Random random;
    private final long seed;
    private final StringBuilder story = new StringBuilder();
    private OutlineCurves program;
    private Reference reference;
    private int width;
    private int height;
    private boolean right = true;

    private RandomRunsTest(long seed) {
        this.seed = seed;
        random = new Random(seed);
    }

    public static void main(String[] args) {
        int wrong = 0;
        for (long seed = 1; seed <= RUNS && wrong < 5; seed++) {
            wrong += new RandomRunsTest(seed).runAll() ? 0 : 1;
        }
        System.out.println(wrong == 0 ? RUNS + " runs agree" : wrong + " runs do not agree");
        if (wrong != 0) {
            System.exit(1);
        }
    }

    private interface Call {
        long answer();
    }

    /** A number for each exception, far from every answer. */
    private static long outcome(Call call) {
        try {
            return call.answer();
        } catch (IllegalStateException e) {
            return Long.MIN_VALUE;
        } catch (IndexOutOfBoundsException e) {
            return e.getClass() == IndexOutOfBoundsException.class ? Long.MIN_VALUE + 1 : Long.MAX_VALUE;
        } catch (IllegalArgumentException e) {
            return Long.MIN_VALUE + 2;
        }
    }

    private void same(String name, Call one, Call other) {
        long got = outcome(one);
        long due = outcome(other);
        story.append(name).append(" = ").append(due).append('\n');
        if (got != due) {
            right = false;
            System.out.println("seed " + seed + ": " + name + " answered " + got + ", due is " + due);
            System.out.println(story);
        }
    }

    private boolean runAll() {
        width = 1 + random.nextInt(16);
        height = 1 + random.nextInt(16);
        if (random.nextInt(3) == 0) {
            width = 16;
            height = 16;
        }
        program = new OutlineCurves(width, height);
        reference = new Reference(width, height);
        story.append("new ").append(width).append(' ').append(height).append('\n');
        paint();
        for (int call = 0; call < CALLS / 2 && right; call++) {
            anyCall();
        }
        return right;
    }

    private void paint() {
        switch (random.nextInt(7)) {
            case 0: noise(1 + random.nextInt(7), 10 + random.nextInt(80)); break;
            case 1: discs(); break;
            case 2: checks(); break;
            case 3: discs(); noise(7, 3); break;
            case 4: thinChecks(); break;
            case 5: comb(); break;
            default: steps(); break;
        }
    }

    private void noise(int colours, int percent) {
        for (int y = 0; y < height; y++) {
            for (int x = 0; x < width; x++) {
                if (random.nextInt(100) < percent) {
                    put(x, y, 1, 1 + random.nextInt(colours));
                }
            }
        }
    }

    private void discs() {
        for (int disc = 0; disc < 5; disc++) {
            int cx = random.nextInt(width);
            int cy = random.nextInt(height);
            int r = 1 + random.nextInt(Math.max(width, height));
            int colour = random.nextInt(8);
            for (int y = 0; y < height; y++) {
                int x = 0;
                while (x < width && (x - cx) * (x - cx) + (y - cy) * (y - cy) > r * r) {
                    x++;
                }
                int n = 0;
                while (x + n < width && (x + n - cx) * (x + n - cx) + (y - cy) * (y - cy) <= r * r) {
                    n++;
                }
                if (n > 0) {
                    put(x, y, n, colour);
                }
            }
        }
    }

    private void checks() {
        int colour = 1 + random.nextInt(7);
        for (int y = 0; y < height; y++) {
            for (int x = y % 2; x < width; x += 2) {
                put(x, y, 1, colour);
            }
        }
    }

    /** What is left of the checks touches itself often and has the longest outlines. */
    private void thinChecks() {
        int kept = 60 + random.nextInt(35);
        for (int y = 0; y < height; y++) {
            for (int x = y % 2; x < width; x += 2) {
                if (random.nextInt(100) < kept) {
                    put(x, y, 1, 1);
                }
            }
        }
    }

    private void comb() {
        put(0, random.nextInt(height), width, 3);
        for (int y = 0; y < height; y++) {
            for (int x = 0; x < width; x += 2) {
                if (random.nextInt(30) > 0) {
                    put(x, y, 1, 3);
                }
            }
        }
    }

    private void steps() {
        int x = random.nextInt(width);
        int n = 1 + random.nextInt(width);
        for (int y = 0; y < height; y++) {
            put(x, y, n, 2);
            x = Math.max(0, Math.min(width - 1, x + random.nextInt(3) - 1));
            n = Math.max(1, n + random.nextInt(5) - 2);
        }
    }

    private void put(int x, int y, int n, int colour) {
        same("put(" + x + ", " + y + ", " + n + ", " + colour + ")",
                () -> program.put(x, y, n, colour), () -> reference.put(x, y, n, colour));
    }

    /** Mostly 0 .. bound - 1, now and then beside it. */
    private int below(int bound) {
        switch (random.nextInt(60)) {
            case 0: return -1;
            case 1: return bound;
            case 2: return Integer.MIN_VALUE;
            case 3: return Integer.MAX_VALUE;
            case 4: return bound + random.nextInt(4);
            default: return bound < 1 ? 0 : random.nextInt(bound);
        }
    }

    private int points(int outline) {
        return outline < 0 || outline >= reference.told(3) ? 1 : reference.about(outline, 0);
    }

    private void anyCall() {
        int o = below(reference.told(3));
        int i = below(points(o));
        int axis = below(2);
        int k = below(random.nextBoolean() ? reference.told(4) : reference.told(6));
        int t = below(9);
        int what = below(12);
        int stiffness = 1 + below(8);
        int steps = 1 + below(random.nextBoolean() ? 24 : 8);
        switch (random.nextInt(20)) {
            case 0: changeNow(); break;
            case 1: same("trace(" + (t - 2) + ", " + what + ")",
                    () -> program.trace(t - 2, what), () -> reference.trace(t - 2, what)); break;
            case 2: traceNow(); break;
            case 3: same("about(" + o + ", " + what + ")",
                    () -> program.about(o, what), () -> reference.about(o, what)); break;
            case 4: same("about(" + o + ", " + 3 + ")",
                    () -> program.about(o, 3), () -> reference.about(o, 3)); break;
            case 5: same("about(" + o + ", " + axis + ")",
                    () -> program.about(o, axis + 1), () -> reference.about(o, axis + 1)); break;
            case 6: same("point(" + o + ", " + i + ", " + axis + ")",
                    () -> program.point(o, i, axis), () -> reference.point(o, i, axis)); break;
            case 7: int x = below(width);
                int y = below(height);
                same("covered(" + x + ", " + y + ")",
                        () -> program.covered(x, y), () -> reference.covered(x, y)); break;
            case 8: case 9: same("piece(" + o + ", " + i + ", " + steps + ", " + stiffness + ")",
                    () -> program.piece(o, i, steps, stiffness),
                    () -> reference.piece(o, i, steps, stiffness)); break;
            case 10: polygonNow(o, stiffness); break;
            case 11: same("corner(" + k + ", " + what + ")",
                    () -> program.corner(k, what), () -> reference.corner(k, what)); break;
            case 12: case 13: curvesNow(); break;
            case 14: case 15: same("curve(" + k + ", " + what + ")",
                    () -> program.curve(k, what), () -> reference.curve(k, what)); break;
            case 16: same("place(" + k + ", " + t + ", " + axis + ")",
                    () -> program.place(k, t, axis), () -> reference.place(k, t, axis)); break;
            case 17: case 18: int error = random.nextBoolean() ? below(65) : below(6);
                same("near(" + k + ", " + t + ", " + error + ")",
                        () -> program.near(k, t, error) ? 1 : 0,
                        () -> reference.near(k, t, error) ? 1 : 0); break;
            default: same("told(" + what + ")", () -> program.told(what), () -> reference.told(what)); break;
        }
    }

    private void changeNow() {
        int x = below(width);
        int y = below(height);
        int n = 1 + below(3);
        int colour = below(8);
        if (random.nextInt(3) == 0) {
            put(x, y, n, colour);
        } else if (random.nextInt(20) == 0) {
            same("clear()", () -> { program.clear(); return 0; }, () -> { reference.clear(); return 0; });
            paint();
        }
    }

    private void traceNow() {
        if (reference.told(3) > 0 && random.nextInt(3) > 0) {
            return;
        }
        int turn = random.nextInt(4);
        int speck = random.nextInt(4) == 0 ? below(257) : 0;
        same("trace(" + turn + ", " + speck + ")",
                () -> program.trace(turn, speck), () -> reference.trace(turn, speck));
    }

    private void polygonNow(int o, int stiffness) {
        same("polygon(" + o + ", " + stiffness + ")",
                () -> program.polygon(o, stiffness), () -> reference.polygon(o, stiffness));
        for (int k = 0; k < reference.told(4); k++) {
            int corner = k;
            for (int w = 0; w < 5; w++) {
                int what = w;
                same("corner(" + k + ", " + w + ")",
                        () -> program.corner(corner, what), () -> reference.corner(corner, what));
            }
        }
        same("told(5)", () -> program.told(5), () -> reference.told(5));
    }

    private void curvesNow() {
        int sharpness = random.nextInt(3) == 0 ? 65 : below(66);
        int error = random.nextInt(3) == 0 ? below(65) : below(20);
        same("curves(" + sharpness + ", " + error + ")",
                () -> program.curves(sharpness, error), () -> reference.curves(sharpness, error));
        for (int k = 0; k < reference.told(6); k++) {
            int curve = k;
            for (int w = 0; w < 11; w++) {
                int what = w;
                same("curve(" + k + ", " + w + ")",
                        () -> program.curve(curve, what), () -> reference.curve(curve, what));
            }
        }
    }
}
