/** Draws pictures whose streams have a wanted number of bytes. */
final class Sizes {
    private static final int SCREEN = 13 + 768 + 1;
    private static final int LEAST_REST = 50;

    private Sizes() {
    }

    /** A picture of 64 by 64 with 256 colours, whose stream has so many bytes (832 at least). */
    static void draw(PictureReel x, int bytes) {
        x.begin(64, 64, 256, 0);
        int rest = bytes - SCREEN;
        // control 8, IMAGE 10 and LEAST, a row of three codes with its length, 0, and the table
        int[][] tables = {{256, 25 + 768}, {128, 24 + 384}, {64, 24 + 192}, {32, 24 + 96}};
        for (int[] table : tables) {
            while (rest - table[1] >= LEAST_REST) {
                x.frame(0, 0, 1, 1, table[0], false);
                rest -= table[1];
            }
        }
        for (int width = 1; width <= 64; width++) {
            int other = widthOf(rest - line(width));
            if (other > 0) {
                drawLine(x, width);
                drawLine(x, other);
                return;
            }
        }
        throw new IllegalStateException("no picture of " + bytes);
    }

    /** The bytes of a FRAME of one line, all of whose INDEXES differ: a code of 9 bits for each. */
    private static int line(int width) {
        return 8 + 10 + 1 + 1 + (9 * (width + 2) + 7) / 8 + 1;
    }

    private static int widthOf(int bytes) {
        for (int width = 1; width <= 64; width++) {
            if (line(width) == bytes) {
                return width;
            }
        }
        return 0;
    }

    private static void drawLine(PictureReel x, int width) {
        int f = x.frame(0, 0, width, 1, 0, false);
        for (int i = 0; i < width; i++) {
            x.paint(f, i, 1, 255 - i);
        }
    }
}
