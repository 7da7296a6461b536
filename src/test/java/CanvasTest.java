/** Promise 17: canvas, BACK and each way of DISPOSAL. */
public final class CanvasTest {
    private static final Checks T = new Checks("CanvasTest");

    public static void main(String[] args) {
        backs();
        wrongPlaces();
        for (int disposal = 0; disposal <= 7; disposal++) {
            disposes(disposal);
        }
        leavesWhatWasFound();
        transparentBeyondTheTable();
        T.finish();
    }

    private static PictureReel coloured(int background) {
        PictureReel x = new PictureReel();
        x.begin(3, 2, 4, background);
        for (int k = 0; k < 4; k++) {
            x.colour(-1, k, 0x111111 * (k + 1));
        }
        return x;
    }

    private static void backs() {
        PictureReel x = coloured(2);
        x.frame(0, 0, 1, 1, 0, false);
        T.due("BACK", x.canvas(0, 2, 1), 0x333333);
        T.due("painted", x.canvas(0, 0, 0), 0x111111);
        x.colour(-1, 2, 0xFFFFFF);
        T.due("BACK of another colour", x.canvas(0, 2, 1), 0xFFFFFF);
        PictureReel y = coloured(4);
        y.frame(0, 0, 1, 1, 0, false);
        T.due("no such colour: EMPTY", y.canvas(0, 2, 1), -1);
        PictureReel z = new PictureReel();
        z.begin(3, 2, 0, 0);
        z.frame(1, 1, 1, 1, 2, false);
        z.colour(0, 0, 0xABCDEF);
        T.due("no GLOBAL TABLE: EMPTY", z.canvas(0, 0, 0), -1);
        T.due("by its LOCAL TABLE", z.canvas(0, 1, 1), 0xABCDEF);
    }

    private static void wrongPlaces() {
        PictureReel x = coloured(0);
        x.frame(0, 0, 1, 1, 0, false);
        T.due("the last place", x.canvas(0, 2, 1), 0x111111);
        int[][] wrong = {{0, 3, 0}, {0, 0, 2}, {0, -1, 0}, {0, 0, -1}, {1, 0, 0}, {-1, 0, 0},
            {Integer.MAX_VALUE, 0, 0}, {0, Integer.MAX_VALUE, 0}, {0, 0, Integer.MIN_VALUE}};
        for (int[] w : wrong) {
            T.due("canvas " + java.util.Arrays.toString(w), x.canvas(w[0], w[1], w[2]), -2);
        }
    }

    /** A lower FRAME on all, one of this DISPOSAL (half of it TRANSPARENT), then one of one place. */
    private static void disposes(int disposal) {
        PictureReel x = coloured(0);
        x.frame(0, 0, 3, 2, 0, false);
        x.paint(0, 0, 6, 1);
        x.frame(1, 0, 2, 1, 0, false);
        x.paint(1, 0, 1, 2);
        x.paint(1, 1, 1, 3);
        x.control(1, disposal, 3, 0, false);
        x.frame(0, 1, 1, 1, 0, false);
        x.paint(2, 0, 1, 3);
        String by = "DISPOSAL " + disposal + ": ";
        T.due(by + "its own canvas", x.canvas(1, 1, 0), 0x333333);
        T.due(by + "its TRANSPARENT place", x.canvas(1, 2, 0), 0x222222);
        T.due(by + "outside", x.canvas(1, 0, 0), 0x222222);
        int shown = disposal == 2 ? 0x111111 : disposal == 3 ? 0x222222 : 0x333333;
        T.due(by + "what the next finds", x.canvas(2, 1, 0), shown);
        int through = disposal == 2 ? 0x111111 : 0x222222;
        T.due(by + "where it was TRANSPARENT", x.canvas(2, 2, 0), through);
        T.due(by + "outside, then", x.canvas(2, 0, 0), 0x222222);
        T.due(by + "the next's own", x.canvas(2, 0, 1), 0x444444);
        T.due(by + "its own canvas still", x.canvas(1, 0, 1), 0x222222);
    }

    /** What FRAMES of 3 leave behind is what the first of them found, even behind one of 2. */
    private static void leavesWhatWasFound() {
        PictureReel x = coloured(9);
        int[] disposals = {1, 3, 3, 2, 3, 0};
        for (int f = 0; f < disposals.length; f++) {
            x.frame(0, 0, f == 3 ? 1 : 2, 1, 0, false);
            x.paint(f, 0, f == 3 ? 1 : 2, f % 4);
            x.control(f, disposals[f], f == 5 ? 1 : -1, 0, false);
        }
        int[] left = {0x111111, 0x222222, 0x333333, 0x444444, 0x111111, -1};
        int[] right = {0x111111, 0x222222, 0x333333, 0x111111, 0x111111, 0x111111};
        for (int f = 0; f < disposals.length; f++) {
            T.due("left of " + f, x.canvas(f, 0, 0), left[f]);
            T.due("right of " + f, x.canvas(f, 1, 0), right[f]);
            T.due("beside of " + f, x.canvas(f, 2, 0), -1);
        }
    }

    private static void transparentBeyondTheTable() {
        PictureReel x = coloured(0);
        x.frame(0, 0, 3, 2, 0, false);
        x.paint(0, 0, 6, 3);
        x.control(0, 0, 255, 0, false);
        T.due("nothing is TRANSPARENT", x.canvas(0, 0, 0), 0x444444);
        x.control(0, 0, 3, 0, false);
        T.due("all is", x.canvas(0, 0, 0), 0x111111);
    }
}
