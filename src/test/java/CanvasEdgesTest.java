/** The edges of promise 17 and of how a FRAME's CANVAS is put together. */
public final class CanvasEdgesTest {
    private static final Checks T = new Checks("CanvasEdgesTest");

    public static void main(String[] args) {
        placesThatThereAre();
        framesThatThereAre();
        backIsTheGlobalColourIfThereIsSuch();
        backIsNeverALocalColour();
        colourZeroIsNotEmpty();
        frameZeroFindsBackEverywhere();
        framesKeepToTheirPlace();
        transparentIndexesPutNothing();
        transparentMayBeNoIndexOfTheTable();
        colourComesFromTheFramesTable();
        disposalOfFrameZero();
        disposalOfOthers();
        disposalTwoTakesAllOfThePlace();
        disposalThreeBehindOthers();
        disposalDoesNotTouchItsOwnCanvas();
        disposalOfTheLastOfTwentyFour();
        canvasFollowsChanges();
        T.finish();
    }

    private static PictureReel coloured(int width, int height, int colours, int background) {
        PictureReel x = new PictureReel();
        x.begin(width, height, colours, background);
        for (int k = 0; k < colours; k++) {
            x.colour(-1, k, 100 + k);
        }
        return x;
    }

    private static void frameOf(PictureReel x, int[] at, int index, int disposal, int transparent) {
        int f = x.frame(at[0], at[1], at[2], at[3], 0, false);
        T.due("frame", f >= 0, true);
        x.paint(f, 0, at[2] * at[3], index);
        x.control(f, disposal, transparent, 0, false);
    }

    /** "-2 if there is none such": x and y at the ends of canvases. */
    private static void placesThatThereAre() {
        for (int[] size : new int[][] {{1, 1}, {5, 2}, {2, 5}, {64, 1}, {1, 64}, {64, 64}}) {
            PictureReel x = coloured(size[0], size[1], 4, 2);
            frameOf(x, new int[] {0, 0, 1, 1}, 1, 0, -1);
            for (int px = -2; px <= 66; px++) {
                for (int py = -2; py <= 66; py++) {
                    boolean is = px >= 0 && px < size[0] && py >= 0 && py < size[1];
                    int due = !is ? -2 : px == 0 && py == 0 ? 101 : 102;
                    T.due("canvas(0, " + px + ", " + py + ")", x.canvas(0, px, py), due);
                }
            }
            for (int px : Edges.outside(0, size[0] - 1)) {
                T.due("canvas(0, " + px + ", 0)", x.canvas(0, px, 0), -2);
                T.due("canvas(0, " + px + ", last)", x.canvas(0, px, size[1] - 1), -2);
            }
            for (int py : Edges.outside(0, size[1] - 1)) {
                T.due("canvas(0, 0, " + py + ")", x.canvas(0, 0, py), -2);
                T.due("canvas(0, last, " + py + ")", x.canvas(0, size[0] - 1, py), -2);
            }
        }
    }

    private static void framesThatThereAre() {
        PictureReel x = coloured(2, 2, 4, 2);
        for (int many = 0; many <= 24; many++) {
            for (int f : Edges.outside(0, many - 1)) {
                T.due("canvas(" + f + ") of " + many, x.canvas(f, 0, 0), -2);
            }
            for (int f = 0; f < many; f++) {
                T.due("canvas(" + f + ") of " + many, x.canvas(f, 0, 0), 100 + f % 4);
            }
            if (many < 24) {
                frameOf(x, new int[] {0, 0, 1, 1}, many % 4, 0, -1);
            }
        }
        x.begin(2, 2, 2, 0);
        T.due("a FRAME of the former picture", x.canvas(0, 0, 0), -2);
    }

    /** "BACK is the GLOBAL TABLE's colour BACKGROUND, if there is such, else EMPTY (-1)." */
    private static void backIsTheGlobalColourIfThereIsSuch() {
        for (int size = 0; size <= 256; size = Math.max(2, size * 2)) {
            for (int background = 0; background <= 255; background++) {
                PictureReel x = coloured(2, 1, size, background);
                x.frame(0, 0, 1, 1, 2, false);
                x.control(0, 2, -1, 0, false);
                x.frame(1, 0, 1, 1, 2, false);
                int due = background < size ? 100 + background : -1;
                String what = "BACKGROUND " + background + " of " + size;
                T.due(what, x.canvas(0, 1, 0), due);
                T.due(what + " by DISPOSAL 2", x.canvas(1, 0, 0), due);
            }
        }
    }

    private static void backIsNeverALocalColour() {
        for (int global = 0; global <= 2; global += 2) {
            PictureReel x = coloured(2, 1, global, 3);
            x.frame(0, 0, 1, 1, 4, false);
            x.colour(0, 3, 0xABCDEF);
            T.due("BACK is EMPTY in spite of a LOCAL colour 3", x.canvas(0, 1, 0), -1);
            x.frame(1, 0, 1, 1, 4, false);
            x.control(0, 2, -1, 0, false);
            T.due("by DISPOSAL 2, too", x.canvas(1, 0, 0), -1);
        }
    }

    /** "The colour at x, y of a FRAME's CANVAS: 0xRRGGBB, -1 EMPTY.": from 0 to 0xFFFFFF. */
    private static void colourZeroIsNotEmpty() {
        PictureReel x = new PictureReel();
        x.begin(2, 1, 2, 0);
        x.frame(0, 0, 1, 1, 2, false);
        T.due("BACK 0", x.canvas(0, 1, 0), 0);
        T.due("colour 0", x.canvas(0, 0, 0), 0);
        x.colour(-1, 0, 0xFFFFFF);
        x.colour(0, 0, 0xFFFFFE);
        T.due("BACK 0xFFFFFF", x.canvas(0, 1, 0), 0xFFFFFF);
        T.due("colour 0xFFFFFE", x.canvas(0, 0, 0), 0xFFFFFE);
    }

    private static void frameZeroFindsBackEverywhere() {
        for (int background = 3; background <= 4; background++) {
            PictureReel x = coloured(5, 4, 4, background);
            frameOf(x, new int[] {0, 0, 5, 4}, 1, 0, 1);
            for (int i = 0; i < 20; i++) {
                int due = background == 3 ? 103 : -1;
                T.due("place " + i + " of a FRAME of nothing", x.canvas(0, i % 5, i / 5), due);
            }
        }
    }

    /** "A FRAME puts the colours of its INDEXES in its place", line by line, and nowhere else. */
    private static void framesKeepToTheirPlace() {
        int[][] all = {{0, 0, 1, 1}, {63, 63, 1, 1}, {0, 0, 64, 64}, {63, 0, 1, 64}, {0, 63, 64, 1},
            {1, 2, 3, 4}, {60, 61, 4, 3}, {31, 0, 2, 64}, {0, 31, 64, 2}, {1, 1, 62, 62}};
        for (int[] at : all) {
            for (int laced = 0; laced <= 1; laced++) {
                PictureReel x = coloured(64, 64, 256, 255);
                x.frame(at[0], at[1], at[2], at[3], 0, laced == 1);
                for (int i = 0; i < at[2] * at[3]; i++) {
                    x.paint(0, i, 1, i * 3 % 251);
                }
                int wrong = 0;
                for (int i = 0; i < 4096; i++) {
                    int px = i % 64 - at[0];
                    int py = i / 64 - at[1];
                    boolean is = px >= 0 && px < at[2] && py >= 0 && py < at[3];
                    int due = is ? 100 + (py * at[2] + px) * 3 % 251 : 355;
                    wrong += x.canvas(0, i % 64, i / 64) == due ? 0 : 1;
                }
                T.due("places that are others, " + java.util.Arrays.toString(at), wrong, 0);
            }
        }
    }

    /** "but where the INDEX is TRANSPARENT nothing": each INDEX from the first to the last. */
    private static void transparentIndexesPutNothing() {
        for (int transparent = -1; transparent <= 255; transparent++) {
            PictureReel x = coloured(4, 1, 256, 9);
            x.frame(0, 0, 4, 1, 0, false);
            int[] indexes = {0, 255, Math.max(transparent, 0), Math.max(transparent, 0) ^ 1};
            for (int i = 0; i < 4; i++) {
                x.paint(0, i, 1, indexes[i]);
            }
            x.control(0, 0, transparent, 0, false);
            for (int i = 0; i < 4; i++) {
                int due = indexes[i] == transparent ? 109 : 100 + indexes[i];
                T.due("INDEX " + indexes[i] + " with TRANSPARENT " + transparent, x.canvas(0, i, 0), due);
            }
        }
    }

    private static void transparentMayBeNoIndexOfTheTable() {
        PictureReel x = coloured(2, 1, 2, 0);
        frameOf(x, new int[] {0, 0, 2, 1}, 1, 0, -1);
        for (int transparent = 2; transparent <= 255; transparent++) {
            T.due("control", x.control(0, 0, transparent, 0, false), true);
            T.due("all is shown with TRANSPARENT " + transparent, x.canvas(0, 1, 0), 101);
        }
    }

    /** "Its TABLE is the LOCAL, else the GLOBAL one." */
    private static void colourComesFromTheFramesTable() {
        for (int local = 0; local <= 256; local = Math.max(2, local * 2)) {
            PictureReel x = coloured(1, 1, 4, 0);
            x.frame(0, 0, 1, 1, local, false);
            int size = local == 0 ? 4 : local;
            for (int k = 0; k < size; k++) {
                x.colour(0, k, 5000 + k);
                T.due("paint", x.paint(0, 0, 1, k), true);
                int due = local == 0 ? 100 + k : 5000 + k;
                T.due("INDEX " + k + " of " + local, x.canvas(0, 0, 0), due);
            }
        }
    }

    /** FRAME 0 itself found BACK: by 2 and by 3 the next one finds BACK, by all others its CANVAS. */
    private static void disposalOfFrameZero() {
        for (int disposal = 0; disposal <= 7; disposal++) {
            PictureReel x = coloured(3, 1, 4, 2);
            frameOf(x, new int[] {0, 0, 2, 1}, 1, disposal, -1);
            frameOf(x, new int[] {2, 0, 1, 1}, 3, 0, -1);
            boolean gone = disposal == 2 || disposal == 3;
            T.due("DISPOSAL " + disposal, x.canvas(1, 0, 0), gone ? 102 : 101);
            T.due("DISPOSAL " + disposal, x.canvas(1, 1, 0), gone ? 102 : 101);
            T.due("the next's own", x.canvas(1, 2, 0), 103);
        }
    }

    private static void disposalOfOthers() {
        for (int disposal = 0; disposal <= 7; disposal++) {
            PictureReel x = coloured(3, 1, 8, 0);
            frameOf(x, new int[] {0, 0, 3, 1}, 1, 1, -1);
            frameOf(x, new int[] {1, 0, 1, 1}, 2, disposal, -1);
            frameOf(x, new int[] {2, 0, 1, 1}, 3, disposal, -1);
            frameOf(x, new int[] {0, 0, 1, 1}, 4, 0, -1);
            int second = disposal == 2 ? 100 : disposal == 3 ? 101 : 102;
            int third = disposal == 2 ? 100 : disposal == 3 ? 101 : 103;
            T.due("behind DISPOSAL " + disposal, x.canvas(2, 1, 0), second);
            T.due("before it is disposed of", x.canvas(2, 2, 0), 103);
            T.due("left of it", x.canvas(2, 0, 0), 101);
            T.due("two behind", x.canvas(3, 1, 0), second);
            T.due("the one behind", x.canvas(3, 2, 0), third);
            T.due("its own", x.canvas(3, 0, 0), 104);
        }
    }

    /** "by DISPOSAL 2 the same with BACK in all of that FRAME's place": also where it put nothing. */
    private static void disposalTwoTakesAllOfThePlace() {
        for (int background : new int[] {2, 99}) {
            PictureReel x = coloured(6, 5, 4, background);
            frameOf(x, new int[] {0, 0, 6, 5}, 1, 0, -1);
            frameOf(x, new int[] {1, 2, 3, 2}, 3, 2, 3);
            frameOf(x, new int[] {0, 0, 1, 1}, 0, 0, 0);
            for (int i = 0; i < 30; i++) {
                int px = i % 6;
                int py = i / 6;
                boolean in = px >= 1 && px < 4 && py >= 2 && py < 4;
                T.due("its own canvas", x.canvas(1, px, py), 101);
                int back = background == 2 ? 102 : -1;
                T.due("then, at " + px + ", " + py, x.canvas(2, px, py), in ? back : 101);
            }
        }
    }

    /** "by 3 what that FRAME found itself": whatever the one ahead of it left. */
    private static void disposalThreeBehindOthers() {
        for (int ahead = 0; ahead <= 7; ahead++) {
            PictureReel x = coloured(2, 1, 8, 0);
            frameOf(x, new int[] {0, 0, 2, 1}, 1, 0, -1);
            frameOf(x, new int[] {0, 0, 1, 1}, 2, ahead, -1);
            int left = ahead == 2 ? 100 : ahead == 3 ? 101 : 102;
            for (int f = 2; f < 23; f++) {
                frameOf(x, new int[] {0, 0, 2, 1}, 3 + f % 4, 3, -1);
                T.due("FRAME " + f, x.canvas(f, 0, 0), 103 + f % 4);
            }
            frameOf(x, new int[] {1, 0, 1, 1}, 7, 3, -1);
            T.due("behind twenty-one of 3 and one of " + ahead, x.canvas(23, 0, 0), left);
            T.due("its own", x.canvas(23, 1, 0), 107);
        }
    }

    private static void disposalDoesNotTouchItsOwnCanvas() {
        PictureReel x = coloured(2, 1, 4, 0);
        frameOf(x, new int[] {0, 0, 2, 1}, 1, 0, -1);
        frameOf(x, new int[] {0, 0, 1, 1}, 2, 0, -1);
        for (int disposal = 0; disposal <= 7; disposal++) {
            x.control(0, disposal, -1, 0, false);
            x.control(1, disposal, -1, 0, false);
            T.due("FRAME 0's own by " + disposal, x.canvas(0, 0, 0), 101);
            T.due("FRAME 1's own by " + disposal, x.canvas(1, 0, 0), 102);
        }
    }

    /** As many FRAMES as there may be, each on all of the greatest canvas. */
    private static void disposalOfTheLastOfTwentyFour() {
        PictureReel x = coloured(64, 64, 32, 31);
        for (int f = 0; f < 24; f++) {
            frameOf(x, new int[] {f, f, 64 - f, 64 - f}, f, f % 4, -1);
        }
        int found = 131;
        for (int f = 0; f < 24; f++) {
            T.due("FRAME " + f + " at its own", x.canvas(f, 63, 63), 100 + f);
            T.due("FRAME " + f + " at the first place", x.canvas(f, 0, 0), f == 0 ? 100 : found);
            found = f == 0 ? 100 : found;
        }
    }

    /** A CANVAS is that of the picture as it is now. */
    private static void canvasFollowsChanges() {
        PictureReel x = coloured(2, 1, 4, 0);
        frameOf(x, new int[] {0, 0, 1, 1}, 1, 2, -1);
        frameOf(x, new int[] {1, 0, 1, 1}, 2, 0, -1);
        T.due("first", x.canvas(1, 0, 0), 100);
        x.colour(-1, 0, 7);
        T.due("another BACK", x.canvas(1, 0, 0), 7);
        x.control(0, 0, -1, 0, false);
        T.due("another DISPOSAL", x.canvas(1, 0, 0), 101);
        x.paint(0, 0, 1, 3);
        T.due("another INDEX", x.canvas(1, 0, 0), 103);
        x.colour(-1, 3, 8);
        T.due("another colour", x.canvas(1, 0, 0), 8);
        x.control(0, 0, 3, 0, false);
        T.due("another TRANSPARENT", x.canvas(1, 0, 0), 7);
    }
}
