import java.io.IOException;
import java.nio.file.Files;
import java.nio.file.Path;

/** The example of README.md: it stands there as it stands here, and its answers are those that it tells. */
public final class ExampleTest extends Due {
    private static final String BEGIN = "        // README.md, from here on";
    private static final String END = "        // to here";

    public static void main(String[] args) throws IOException {
        // .ci/run tells where the project lies; a run by hand is in it
        Path root = Path.of(System.getProperty("project", "."));
        example();
        standsInReadme(root);
        end();
    }

    private static void example() {
        // README.md, from here on
        OutlineCurves x = new OutlineCurves(12, 12);
        int[] margins = {4, 2, 1, 1, 0, 0, 0, 0, 1, 1, 2, 4};
        for (int y = 0; y < 12; y++) {
            x.put(margins[y], y, 12 - 2 * margins[y], 1);   // a disc of colour 1
        }
        int changed = x.put(5, 5, 2, 2);                    // 2: two samples in it get colour 2

        int outlines = x.trace(0, 0);                       // 2: turn 0, no specks left out
        int layer = x.about(1, 1);                          // 2: outline 1 is of layer 2
        int points = x.about(0, 0);                         // 48
        int area = x.about(0, 2);                           // 112 samples
        int colour = x.covered(6, 5);                       // 2

        int cost = x.piece(0, 3, 6, 1);                     // 8: from point 3 by 6 steps, straight for 1
        int corners = x.polygon(0, 1);                      // 10: outline 0, stiffness 1
        int angle = x.corner(2, 3);                         // 18

        int curves = x.curves(65, 8);                       // 4: nothing sharp, an error of 8/32
        int joined = x.curve(0, 1);                         // 3: corners of the first curve
        int firstX = x.curve(0, 3);                         // 96, in 1/32: 3 samples from the left
        int placeX = x.place(0, 8, 0);                      // 188416, in 1/16384: 11.5 samples
        boolean near = x.near(0, 4, 8);                     // true
        // to here
        sentence("the example of README.md");
        due("changed", changed, 2);
        due("outlines", outlines, 2);
        due("layer", layer, 2);
        due("points", points, 48);
        due("area", area, 112);
        due("colour", colour, 2);
        due("cost", cost, 8);
        due("corners", corners, 10);
        due("angle", angle, 18);
        due("curves", curves, 4);
        due("joined", joined, 3);
        due("firstX", firstX, 96);
        due("placeX", placeX, 188416);
        due("near", near, true);
    }

    private static void standsInReadme(Path root) throws IOException {
        String here = Files.readString(root.resolve("src/test/java/ExampleTest.java"));
        String readme = Files.readString(root.resolve("README.md"));
        StringBuilder block = new StringBuilder("```java\n");
        boolean within = false;
        for (String line : here.split("\n")) {
            within &= !line.equals(END);
            if (within) {
                block.append(line.isEmpty() ? line : line.substring(BEGIN.indexOf('/'))).append('\n');
            }
            within |= line.equals(BEGIN);
        }
        sentence("README.md says how to use the class");
        due("its example is the one that is tested", readme.contains(block.append("```\n")), true);
    }
}
