import java.io.IOException;
import java.nio.file.Files;
import java.nio.file.Path;

/** README.md's lines of Java, run as they stand there, with the answers that it tells. */
public final class ReadmeTest {
    private static final Checks T = new Checks("ReadmeTest");

    public static void main(String[] args) throws IOException {
        example();
        everyLineStandsHere();
        T.finish();
    }

    private static void example() {
        PictureReel reel = new PictureReel();
        reel.begin(4, 4, 2, 0);
        reel.colour(PictureReel.NONE, 1, 0xFF0000);
        int f = reel.frame(1, 1, 2, 2, 0, false);
        reel.paint(f, 0, 4, 1);
        reel.control(f, 2, PictureReel.NONE, 10, false);
        int many = reel.write();
        T.due("the frame", f, 0);
        T.due("bytes are written", many, reel.about(7));
        T.due("the first byte", reel.out(0), 'G');
        T.due("the last byte", reel.out(many - 1), 0x3B);
        reel.take();
        int frames = reel.read(many);
        int rgb = reel.canvas(0, 1, 1);
        int back = reel.canvas(0, 0, 0);
        T.due("frames", frames, 1);
        T.due("rgb", rgb, 0xFF0000);
        T.due("back", back, 0);
        T.due("disposal", reel.frameOf(0, 6), 2);
        T.due("delay", reel.frameOf(0, 8), 10);
        reel.feed(0x47494638, 0x39610400, 0x04000000, 0, 0);
        int refused = reel.read(13);
        int kind = reel.fault(0);
        int place = reel.fault(1);
        T.due("refused", refused, PictureReel.NONE);
        T.due("kind", kind, 2);
        T.due("place", place, 13);
        T.due("the picture stays", reel.about(5), 1);
    }

    /** So that the example above can't fall behind README.md. */
    private static void everyLineStandsHere() throws IOException {
        String here = Files.readString(Path.of("src/test/java/ReadmeTest.java"));
        boolean inside = false;
        int lines = 0;
        for (String line : Files.readAllLines(Path.of("README.md"))) {
            if (line.startsWith("```")) {
                inside = line.equals("```java");
            } else if (inside) {
                String code = line.replaceAll(" *//.*", "");
                T.due("a line for " + code, here.contains("\n        " + code + "\n"), true);
                lines++;
            }
        }
        T.due("lines are found", lines > 0, true);
    }
}
