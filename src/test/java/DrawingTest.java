/** Promises 6 to 10 and 13 to 16: begin, colour, frame, control, paint and what answers them. */
public final class DrawingTest {
    private static final Checks T = new Checks("DrawingTest");
    private static final int LEAST = Integer.MIN_VALUE;
    private static final int MOST = Integer.MAX_VALUE;

    public static void main(String[] args) {
        begins();
        beginsAnew();
        colours();
        frames();
        framesWithoutRoom();
        controls();
        paints();
        T.finish();
    }

    private static void begins() {
        PictureReel x = new PictureReel();
        for (int size = 2; size <= 256; size *= 2) {
            T.due("begin of " + size, x.begin(64, 63, size, 255), true);
            T.due("its size", x.about(2), size);
            T.due("its last colour", x.colourOf(-1, size - 1), 0);
            T.due("no colour", x.colourOf(-1, size), -1);
        }
        T.due("WIDTH", x.about(0), 64);
        T.due("HEIGHT", x.about(1), 63);
        T.due("BACKGROUND", x.about(3), 255);
        int[][] wrong = {{0, 1, 0, 0}, {65, 1, 0, 0}, {1, 0, 0, 0}, {1, 65, 0, 0}, {-1, 1, 0, 0},
            {1, 1, 1, 0}, {1, 1, 3, 0}, {1, 1, 512, 0}, {1, 1, -2, 0}, {1, 1, 255, 0},
            {1, 1, LEAST, 0}, {1, 1, 6, 0}, {1, 1, 0, -1}, {1, 1, 0, 256}, {MOST, 1, 0, 0},
            {1, MOST, 2, 0}, {LEAST, LEAST, 2, 0}, {1, 1, MOST, 0}, {1, 1, 0, MOST}};
        for (int[] w : wrong) {
            T.due("begin " + java.util.Arrays.toString(w), x.begin(w[0], w[1], w[2], w[3]), false);
            T.due("nothing changed", x.about(0) * 1000 + x.about(2), 64256);
        }
        T.due("without a table", x.begin(1, 64, 0, 0), true);
        T.due("size 0", x.about(2), 0);
        T.due("no colour", x.colourOf(-1, 0), -1);
    }

    private static void beginsAnew() {
        PictureReel x = new PictureReel();
        Bytes s = new Bytes().add("GIF89a").two(2, 2).add(0x80, 0, 9).colours(7, 8);
        s.image(0, 0, 1, 1, Bytes.single(1)).add(0x3B);
        T.due("read", s.readBy(x), 1);
        T.due("ASPECT", x.about(4), 9);
        x.write();
        x.feed(1, 2, 3, 4, 5);
        T.due("begin", x.begin(2, 2, 2, 0), true);
        T.due("ASPECT 0", x.about(4), 0);
        T.due("no FRAMES", x.about(5), 0);
        T.due("colours 0", x.colourOf(-1, 0) + x.colourOf(-1, 1), 0);
        T.due("the tape stays", x.about(6), 20);
        T.due("OUT stays", x.about(7), 19 + 8 + 11 + 4 + 1);
        T.due("the fault stays", x.fault(0), 0);
        T.due("a new FRAME", x.frame(0, 0, 1, 1, 0, false), 0);
        T.due("its INDEX", x.index(0, 0), 0);
    }

    private static void colours() {
        PictureReel x = new PictureReel();
        x.begin(2, 2, 4, 0);
        x.frame(0, 0, 2, 2, 8, false);
        x.frame(0, 0, 2, 2, 0, false);
        T.due("global", x.colour(-1, 3, 0xFFFFFF), true);
        T.due("global 0", x.colour(-1, 0, 1), true);
        T.due("local", x.colour(0, 7, 0xABCDEF), true);
        T.due("colourOf global", x.colourOf(-1, 3), 0xFFFFFF);
        T.due("colourOf global 0", x.colourOf(-1, 0), 1);
        T.due("colourOf global 1", x.colourOf(-1, 1), 0);
        T.due("colourOf local", x.colourOf(0, 7), 0xABCDEF);
        T.due("colourOf local 3", x.colourOf(0, 3), 0);
        int[][] wrong = {{-1, 4, 0}, {-1, -1, 0}, {-1, 0, -1}, {-1, 0, 0x1000000}, {-2, 0, 0},
            {0, 8, 0}, {1, 0, 0}, {2, 0, 0}, {MOST, 0, 0}, {LEAST, 0, 0}, {0, MOST, 0},
            {0, LEAST, 0}, {0, 0, MOST}, {0, 0, LEAST}};
        for (int[] w : wrong) {
            T.due("colour " + java.util.Arrays.toString(w), x.colour(w[0], w[1], w[2]), false);
        }
        T.due("colour 0 stays", x.colourOf(-1, 0), 1);
        int[][] none = {{-1, 4}, {-1, -1}, {-2, 0}, {0, 8}, {0, -1}, {1, 0}, {2, 0}, {MOST, MOST}};
        for (int[] w : none) {
            T.due("colourOf " + java.util.Arrays.toString(w), x.colourOf(w[0], w[1]), -1);
        }
    }

    private static void frames() {
        PictureReel x = new PictureReel();
        x.begin(10, 8, 0, 0);
        T.due("whole", x.frame(0, 0, 10, 8, 256, false), 0);
        T.due("a corner", x.frame(9, 7, 1, 1, 2, true), 1);
        int[] due = {9, 7, 1, 1, 2, 1, 0, -1, 0, 0};
        for (int what = 0; what < due.length; what++) {
            T.due("frameOf(1, " + what + ")", x.frameOf(1, what), due[what]);
        }
        T.due("frameOf(1, 10)", x.frameOf(1, 10), -1);
        T.due("frameOf(1, -1)", x.frameOf(1, -1), -1);
        T.due("frameOf(1, most)", x.frameOf(1, MOST), -1);
        T.due("frameOf(2, 0)", x.frameOf(2, 0), -1);
        T.due("frameOf(-1, 0)", x.frameOf(-1, 0), -1);
        T.due("frameOf(least, 0)", x.frameOf(LEAST, 0), -1);
        T.due("not INTERLACED", x.frameOf(0, 5), 0);
        T.due("local size", x.frameOf(0, 4), 256);
        T.due("INDEX 0", x.index(0, 79), 0);
        T.due("no place", x.index(0, 80), -1);
        T.due("no place", x.index(0, -1), -1);
        T.due("no place", x.index(0, MOST), -1);
        T.due("no FRAME", x.index(2, 0), -1);
        T.due("no FRAME", x.index(-1, 0), -1);
        T.due("a FRAME comes all 0 again", secondUseIsClean(), 0);
    }

    /** A FRAME's room is used again by a later picture: nothing of the former one may show. */
    private static int secondUseIsClean() {
        PictureReel x = new PictureReel();
        x.begin(4, 4, 2, 0);
        x.frame(0, 0, 4, 4, 4, true);
        x.paint(0, 0, 16, 3);
        x.colour(0, 1, 5);
        x.control(0, 3, 4, 5, true);
        x.begin(4, 4, 2, 0);
        x.frame(0, 0, 4, 4, 4, false);
        int sum = x.colourOf(0, 1) + x.frameOf(0, 5) + x.frameOf(0, 6) + x.frameOf(0, 8);
        sum += x.frameOf(0, 9) + x.frameOf(0, 7) + 1;
        for (int i = 0; i < 16; i++) {
            sum += x.index(0, i);
        }
        return sum;
    }

    private static void framesWithoutRoom() {
        PictureReel x = new PictureReel();
        x.begin(10, 8, 0, 0);
        int[][] wrong = {{0, 0, 11, 1, 2}, {0, 0, 1, 9, 2}, {10, 0, 1, 1, 2}, {0, 8, 1, 1, 2},
            {-1, 0, 1, 1, 2}, {0, -1, 1, 1, 2}, {0, 0, 0, 1, 2}, {0, 0, 1, 0, 2}, {0, 0, -1, 1, 2},
            {0, 0, 1, 1, 0}, {0, 0, 1, 1, 3}, {0, 0, 1, 1, 1}, {0, 0, 1, 1, 512}, {0, 0, 1, 1, -4},
            {MOST, 0, MOST, 1, 2}, {0, MOST, 1, MOST, 2}, {MOST, 0, 1, 1, 2}, {1, 0, MOST, 1, 2},
            {LEAST, 0, LEAST, 1, 2}, {0, 0, 1, 1, LEAST}, {1, 0, 10, 1, 2}, {0, 1, 1, 8, 2}};
        for (int[] w : wrong) {
            String call = "frame " + java.util.Arrays.toString(w);
            T.due(call, x.frame(w[0], w[1], w[2], w[3], w[4], false), -1);
        }
        T.due("nothing changed", x.about(5), 0);
        for (int f = 0; f < 24; f++) {
            T.due("frame " + f, x.frame(f % 10, 0, 1, 8, 2, false), f);
        }
        T.due("the 25th", x.frame(0, 0, 1, 1, 2, false), -1);
        T.due("FRAMES", x.about(5), 24);
        T.due("the last one's LEFT", x.frameOf(23, 0), 3);
        x.begin(1, 1, 2, 0);
        T.due("by the GLOBAL TABLE", x.frame(0, 0, 1, 1, 0, false), 0);
        T.due("3 colours in spite of it", x.frame(0, 0, 1, 1, 3, false), -1);
    }

    private static void controls() {
        PictureReel x = new PictureReel();
        x.begin(2, 2, 2, 0);
        x.frame(0, 0, 1, 1, 0, false);
        T.due("the most", x.control(0, 7, 255, 65535, true), true);
        int[][] wrong = {{0, -1, 0, 0}, {0, 8, 0, 0}, {0, 0, -2, 0}, {0, 0, 256, 0}, {0, 0, 0, -1},
            {0, 0, 0, 65536}, {1, 0, 0, 0}, {-1, 0, 0, 0}, {LEAST, 0, 0, 0}, {0, MOST, 0, 0},
            {0, 0, MOST, 0}, {0, 0, 0, MOST}, {0, LEAST, LEAST, LEAST}};
        for (int[] w : wrong) {
            String call = "control " + java.util.Arrays.toString(w);
            T.due(call, x.control(w[0], w[1], w[2], w[3], false), false);
        }
        T.due("DISPOSAL", x.frameOf(0, 6), 7);
        T.due("TRANSPARENT", x.frameOf(0, 7), 255);
        T.due("DELAY", x.frameOf(0, 8), 65535);
        T.due("INPUT", x.frameOf(0, 9), 1);
        T.due("the least", x.control(0, 0, -1, 0, false), true);
        T.due("DISPOSAL", x.frameOf(0, 6), 0);
        T.due("TRANSPARENT", x.frameOf(0, 7), -1);
        T.due("DELAY", x.frameOf(0, 8), 0);
        T.due("INPUT", x.frameOf(0, 9), 0);
        T.due("TRANSPARENT 0", x.control(0, 1, 0, 300, false), true);
        T.due("TRANSPARENT 0", x.frameOf(0, 7), 0);
    }

    private static void paints() {
        PictureReel x = new PictureReel();
        x.begin(4, 3, 4, 0);
        x.frame(1, 1, 3, 2, 0, true);
        x.frame(0, 0, 1, 1, 8, false);
        T.due("over the line's end", x.paint(0, 2, 2, 3), true);
        int[] due = {0, 0, 3, 3, 0, 0};
        for (int i = 0; i < 6; i++) {
            T.due("index(0, " + i + ")", x.index(0, i), due[i]);
        }
        T.due("all", x.paint(0, 0, 6, 1), true);
        T.due("the last", x.paint(0, 5, 1, 2), true);
        T.due("none", x.paint(0, 3, 0, 3), true);
        T.due("none at the end", x.paint(0, 6, 0, 3), true);
        T.due("by the LOCAL TABLE", x.paint(1, 0, 1, 7), true);
        int[][] wrong = {{0, 0, 1, 4}, {0, 0, 0, 4}, {0, 0, 1, -1}, {0, 0, 7, 0}, {0, 6, 1, 0},
            {0, -1, 1, 0}, {0, -1, 2, 0}, {0, 0, -1, 0}, {0, 7, 0, 0}, {2, 0, 1, 0}, {-1, 0, 1, 0},
            {1, 0, 1, 8}, {0, MOST, MOST, 0}, {0, 1, MOST, 0}, {0, MOST, 0, 0}, {0, MOST, 1, 0},
            {0, LEAST, LEAST, 0}, {0, 3, LEAST, 0}, {0, 0, 1, MOST}, {0, 7, -1, 0}};
        for (int[] w : wrong) {
            T.due("paint " + java.util.Arrays.toString(w), x.paint(w[0], w[1], w[2], w[3]), false);
        }
        int[] still = {1, 1, 1, 1, 1, 2};
        for (int i = 0; i < 6; i++) {
            T.due("index(0, " + i + ") still", x.index(0, i), still[i]);
        }
        T.due("index(1, 0)", x.index(1, 0), 7);
    }
}
