/** The edges of promises 6 to 10, and of part I's numbers: begin, colour, frame, control, paint. */
public final class PictureEdgesTest {
    private static final Checks T = new Checks("PictureEdgesTest");
    private static final int LEAST = Edges.LEAST;
    private static final int MOST = Edges.MOST;

    public static void main(String[] args) {
        canvasSidesAreOneToSixtyFour();
        globalTablesAreNoneOrPowersOfTwo();
        backgroundIsAByte();
        beginForgetsAllOfThePicture();
        coloursOfTheGlobalTable();
        coloursOfLocalTables();
        rgbHasThreeBytes();
        framesLieWithinTheCanvas();
        framesWhoseSumsWrapAround();
        framesHaveSidesOfTheirOwn();
        localTablesAreNoneOrPowersOfTwo();
        framesHaveATable();
        framesAreTwentyFour();
        framesBeginWithNothing();
        controlsTakeNumbersThatMayBe();
        controlsOfNoFrame();
        paintTakesPlacesThatThereAre();
        paintWhoseSumsWrapAround();
        paintOfTheGreatestFrame();
        paintTakesIndexesOfTheTable();
        paintOfNoFrame();
        T.finish();
    }

    private static void begins(int width, int height, int colours, int background, boolean may) {
        String call = "begin(" + width + ", " + height + ", " + colours + ", " + background + ")";
        PictureReel x = new PictureReel();
        x.begin(7, 9, 16, 11);
        x.frame(0, 0, 1, 1, 0, false);
        T.due(call, x.begin(width, height, colours, background), may);
        int[] was = {7, 9, 16, 11, 0, 1};
        int[] is = {width, height, colours, background, 0, 0};
        for (int what = 0; what < is.length; what++) {
            T.due(call + ", about(" + what + ")", x.about(what), may ? is[what] : was[what]);
        }
    }

    /** "WIDTH, HEIGHT (1 .. 64)" */
    private static void canvasSidesAreOneToSixtyFour() {
        for (int side = -2; side <= 70; side++) {
            begins(side, 5, 4, 1, side >= 1 && side <= 64);
            begins(5, side, 4, 1, side >= 1 && side <= 64);
        }
        for (int side : Edges.outside(1, 64)) {
            begins(side, 1, 0, 0, false);
            begins(64, side, 256, 255, false);
            begins(side, side, 2, 0, false);
        }
        begins(1, 1, 0, 0, true);
        begins(64, 64, 256, 255, true);
        begins(1, 64, 2, 0, true);
        begins(64, 1, 0, 255, true);
    }

    /** "a GLOBAL TABLE of so many colours, all 0 (0: none, else a power of 2, 2 to 256)" */
    private static void globalTablesAreNoneOrPowersOfTwo() {
        for (int colours = -260; colours <= 1100; colours++) {
            begins(3, 4, colours, 0, Edges.isTableSize(colours));
        }
        for (int power = 9; power < 32; power++) {
            begins(3, 4, 1 << power, 0, false);
            begins(3, 4, (1 << power) + 2, 0, false);
        }
        for (int colours : Edges.outside(0, 256)) {
            begins(3, 4, colours, 0, false);
        }
        for (int size = 2; size <= 256; size *= 2) {
            PictureReel x = new PictureReel();
            x.begin(1, 1, 256, 0);
            for (int k = 0; k < 256; k++) {
                x.colour(-1, k, 0xFFFFFF);
            }
            T.due("begin with " + size, x.begin(1, 1, size, 0), true);
            for (int k = 0; k <= 256; k++) {
                T.due("colour " + k + " of " + size, x.colourOf(-1, k), k < size ? 0 : -1);
            }
        }
    }

    /** "BACKGROUND 0 .. 255" */
    private static void backgroundIsAByte() {
        for (int background = -3; background <= 260; background++) {
            begins(1, 2, 2, background, background >= 0 && background <= 255);
        }
        for (int background : Edges.outside(0, 255)) {
            begins(1, 2, 0, background, false);
            begins(1, 2, 256, background, false);
        }
    }

    /** "A new picture: .. ASPECT 0, no FRAMES": nothing of a former one shows, and all else stays. */
    private static void beginForgetsAllOfThePicture() {
        PictureReel x = new PictureReel();
        Bytes s = new Bytes().add("GIF89a").two(2, 2).add(0x80, 1, 255).colours(7, 8);
        s.image(0, 0, 2, 1, Bytes.codes(4, 3, 1, 3, 1, 3, 5, 3)).add(0x3B);
        T.due("read", s.readBy(x), 1);
        T.due("ASPECT", x.about(4), 255);
        x.write();
        x.feed(1, 2, 3, 4, 5);
        Snapshot out = Snapshot.out(x);
        T.due("begin", x.begin(2, 2, 2, 1), true);
        PictureReel fresh = new PictureReel();
        fresh.begin(2, 2, 2, 1);
        T.due("a new picture", Snapshot.picture(fresh).difference(Snapshot.picture(x)).isEmpty(), true);
        T.due("OUT stays", out.difference(Snapshot.out(x)).isEmpty(), true);
        T.due("the tape stays", x.about(6), 20);
        T.due("the fault stays", x.fault(0) * 10 + x.fault(1), -1);
        T.due("no place of the former FRAME", x.index(0, 0), -1);
        x.begin(1, 1, 0, 0);
        T.due("no colour of the former TABLE", x.colourOf(-1, 0), -1);
        T.due("none to change", x.colour(-1, 0, 1), false);
    }

    /** "Colour k of .. the GLOBAL one: NONE": each size, the last colour and the first that is none. */
    private static void coloursOfTheGlobalTable() {
        for (int size = 0; size <= 256; size = Math.max(2, size * 2)) {
            PictureReel x = new PictureReel();
            x.begin(1, 1, size, 0);
            for (int k = -2; k <= 260; k++) {
                boolean is = k >= 0 && k < size;
                T.due("colour(NONE, " + k + ") of " + size, x.colour(-1, k, k + 9), is);
                T.due("colourOf(NONE, " + k + ") of " + size, x.colourOf(-1, k), is ? k + 9 : -1);
            }
            for (int k : Edges.outside(0, size - 1)) {
                T.due("colour(NONE, " + k + ") of " + size, x.colour(-1, k, 1), false);
                T.due("colourOf(NONE, " + k + ") of " + size, x.colourOf(-1, k), -1);
            }
            for (int k = 0; k < size; k++) {
                T.due("colour " + k + " is its own", x.colourOf(-1, k), k + 9);
            }
        }
    }

    /** "of a FRAME's LOCAL one .. False .. if there is none such" */
    private static void coloursOfLocalTables() {
        for (int size = 0; size <= 256; size = Math.max(2, size * 2)) {
            PictureReel x = new PictureReel();
            x.begin(1, 1, 8, 0);
            x.frame(0, 0, 1, 1, size, false);
            x.frame(0, 0, 1, 1, 256, false);
            for (int k = -2; k <= 260; k++) {
                boolean is = k >= 0 && k < size;
                T.due("colour(0, " + k + ") of " + size, x.colour(0, k, k + 9), is);
                T.due("colourOf(0, " + k + ") of " + size, x.colourOf(0, k), is ? k + 9 : -1);
                boolean other = k >= 0 && k < 256;
                T.due("another's colour " + k + " stays", x.colourOf(1, k), other ? 0 : -1);
            }
            for (int k : Edges.outside(0, size - 1)) {
                T.due("colour(0, " + k + ") of " + size, x.colour(0, k, 1), false);
                T.due("colourOf(0, " + k + ") of " + size, x.colourOf(0, k), -1);
            }
            T.due("the GLOBAL one stays", x.colourOf(-1, 0) + x.colourOf(-1, 7), 0);
            for (int frame : Edges.outside(-1, 1)) {
                T.due("colour(" + frame + ", 0)", x.colour(frame, 0, 1), false);
                T.due("colourOf(" + frame + ", 0)", x.colourOf(frame, 0), -1);
            }
        }
    }

    /** "becomes rgb (0 .. 0xFFFFFF)" */
    private static void rgbHasThreeBytes() {
        PictureReel x = new PictureReel();
        x.begin(1, 1, 2, 0);
        x.frame(0, 0, 1, 1, 2, false);
        for (int frame = -1; frame <= 0; frame++) {
            for (int rgb : Edges.inside(0, 0xFFFFFF)) {
                T.due("colour " + rgb, x.colour(frame, 1, rgb), true);
                T.due("is it", x.colourOf(frame, 1), rgb);
            }
            for (int rgb : Edges.outside(0, 0xFFFFFF)) {
                T.due("colour " + rgb, x.colour(frame, 1, rgb), false);
                T.due("stays", x.colourOf(frame, 1), 0xFFFFFF);
            }
        }
    }

    private static void frames(int[] canvas, int[] at, boolean may) {
        PictureReel x = new PictureReel();
        x.begin(canvas[0], canvas[1], 2, 0);
        String call = "frame " + java.util.Arrays.toString(at) + " on " + canvas[0] + " by " + canvas[1];
        T.due(call, x.frame(at[0], at[1], at[2], at[3], 0, false), may ? 0 : -1);
        T.due(call + ", FRAMES", x.about(5), may ? 1 : 0);
        for (int what = 0; what < 4; what++) {
            T.due(call + ", frameOf(0, " + what + ")", x.frameOf(0, what), may ? at[what] : -1);
        }
        int places = at[2] * at[3];
        if (may) {
            T.due(call + ", its last place", x.index(0, places - 1), 0);
            T.due(call + ", behind its last place", x.index(0, places), -1);
        }
    }

    /** "it isn't within the canvas, or has no places": one side, at all ends of canvases. */
    private static void framesLieWithinTheCanvas() {
        for (int side : new int[] {1, 2, 3, 63, 64}) {
            for (int from : new int[] {-2, -1, 0, 1, side - 2, side - 1, side, side + 1, 256}) {
                for (int many : new int[] {-1, 0, 1, 2, side - 1, side, side + 1, 256, 257}) {
                    boolean may = from >= 0 && many >= 1 && from + many <= side;
                    frames(new int[] {side, 5}, new int[] {from, 2, many, 3}, may);
                    frames(new int[] {5, side}, new int[] {2, from, 3, many}, may);
                }
            }
        }
        for (int sum = 0; sum < 6 * 6 * 6 * 6; sum++) {
            int[] at = {sum % 6 - 1, sum / 6 % 6 - 1, sum / 36 % 6 - 1, sum / 216 - 1};
            boolean across = at[0] >= 0 && at[2] >= 1 && at[0] + at[2] <= 3;
            boolean down = at[1] >= 0 && at[3] >= 1 && at[1] + at[3] <= 2;
            frames(new int[] {3, 2}, at, across && down);
        }
    }

    /** The greatest and the smallest ints, whose sums and products look small. */
    private static void framesWhoseSumsWrapAround() {
        int[][] pairs = {{MOST, 1}, {MOST, 2}, {MOST, MOST}, {1, MOST}, {0, MOST}, {2, MOST}, {LEAST, 1},
            {LEAST, LEAST}, {LEAST, LEAST + 1}, {LEAST, LEAST + 4}, {LEAST, MOST}, {MOST, LEAST},
            {-1, 2}, {-1, MOST}, {1, -1}, {0, LEAST}, {0, LEAST + 1}, {1, LEAST}, {MOST - 3, 8},
            {MOST - 3, 5}, {1 << 30, 1 << 30}, {0, 65536}, {65536, 1}, {0, 65537}, {4, MOST - 3}};
        for (int[] p : pairs) {
            for (int[] canvas : new int[][] {{4, 4}, {64, 64}, {1, 1}}) {
                frames(canvas, new int[] {p[0], 0, p[1], 1}, false);
                frames(canvas, new int[] {0, p[0], 1, p[1]}, false);
                frames(canvas, new int[] {p[0], p[0], p[1], p[1]}, false);
            }
        }
    }

    /** WIDTH and LEFT go with the canvas's WIDTH, HEIGHT and TOP with its HEIGHT. */
    private static void framesHaveSidesOfTheirOwn() {
        frames(new int[] {64, 1}, new int[] {0, 0, 64, 1}, true);
        frames(new int[] {64, 1}, new int[] {0, 0, 1, 64}, false);
        frames(new int[] {1, 64}, new int[] {0, 0, 1, 64}, true);
        frames(new int[] {1, 64}, new int[] {0, 0, 64, 1}, false);
        frames(new int[] {64, 1}, new int[] {63, 0, 1, 1}, true);
        frames(new int[] {64, 1}, new int[] {0, 63, 1, 1}, false);
        frames(new int[] {1, 64}, new int[] {0, 63, 1, 1}, true);
        frames(new int[] {1, 64}, new int[] {63, 0, 1, 1}, false);
        frames(new int[] {64, 64}, new int[] {0, 0, 64, 64}, true);
        frames(new int[] {64, 64}, new int[] {63, 63, 1, 1}, true);
    }

    /** "a LOCAL TABLE of so many colours, all 0 (0: none, else a power of 2, 2 to 256)" */
    private static void localTablesAreNoneOrPowersOfTwo() {
        PictureReel x = new PictureReel();
        for (int global = 0; global <= 2; global += 2) {
            for (int colours = -260; colours <= 1100; colours++) {
                x.begin(1, 1, global, 0);
                boolean may = Edges.isTableSize(colours) && (colours != 0 || global != 0);
                T.due("frame of " + colours, x.frame(0, 0, 1, 1, colours, false), may ? 0 : -1);
                T.due("its size", x.frameOf(0, 4), may ? colours : -1);
                T.due("FRAMES", x.about(5), may ? 1 : 0);
            }
            for (int power = 9; power < 32; power++) {
                T.due("frame of 1 << " + power, x.frame(0, 0, 1, 1, 1 << power, false), -1);
            }
            for (int colours : Edges.outside(0, 256)) {
                T.due("frame of " + colours, x.frame(0, 0, 1, 1, colours, false), -1);
            }
        }
    }

    /** "it would have no TABLE" */
    private static void framesHaveATable() {
        PictureReel x = new PictureReel();
        x.begin(2, 2, 0, 0);
        T.due("neither LOCAL nor GLOBAL", x.frame(0, 0, 1, 1, 0, false), -1);
        T.due("a LOCAL one of 2", x.frame(0, 0, 1, 1, 2, false), 0);
        T.due("another's LOCAL one does not count", x.frame(0, 0, 1, 1, 0, false), -1);
        T.due("FRAMES", x.about(5), 1);
        x.begin(2, 2, 2, 0);
        T.due("the GLOBAL one", x.frame(0, 0, 1, 1, 0, false), 0);
        T.due("both", x.frame(0, 0, 1, 1, 256, false), 1);
        T.due("size without", x.frameOf(0, 4), 0);
        T.due("size with", x.frameOf(1, 4), 256);
    }

    /** "there are 24" */
    private static void framesAreTwentyFour() {
        PictureReel x = new PictureReel();
        for (int round = 0; round < 2; round++) {
            x.begin(64, 64, 2, 0);
            for (int f = 0; f < 24; f++) {
                T.due("frame " + f, x.frame(f, 0, 1 + f, 2, 0, f % 2 == 1), f);
                T.due("FRAMES", x.about(5), f + 1);
            }
            T.due("the 25th", x.frame(0, 0, 1, 1, 0, false), -1);
            T.due("the 25th, with a TABLE", x.frame(0, 0, 1, 1, 2, true), -1);
            T.due("FRAMES", x.about(5), 24);
            for (int f = 0; f < 24; f++) {
                T.due("LEFT of " + f, x.frameOf(f, 0), f);
                T.due("WIDTH of " + f, x.frameOf(f, 2), f + 1);
                T.due("INTERLACED " + f, x.frameOf(f, 5), f % 2);
            }
            T.due("no 25th", x.frameOf(24, 0), -1);
        }
    }

    /** "all INDEXES 0, a LOCAL TABLE .. all 0 .., DISPOSAL 0, no TRANSPARENT, DELAY 0, no INPUT" */
    private static void framesBeginWithNothing() {
        PictureReel x = new PictureReel();
        for (int round = 0; round < 3; round++) {
            x.begin(64, 64, 0, 0);
            for (int f = 0; f < 24; f += 1 + round) {
                int number = x.about(5);
                x.frame(0, 0, 64, 64, 256, f % 3 == 0);
                int[] due = {0, 0, 64, 64, 256, f % 3 == 0 ? 1 : 0, 0, -1, 0, 0};
                for (int what = 0; what < due.length; what++) {
                    T.due("a new FRAME's " + what, x.frameOf(number, what), due[what]);
                }
                int sum = 0;
                for (int i = 0; i < 4096; i++) {
                    sum |= x.index(number, i) | x.colourOf(number, i % 256);
                }
                T.due("its INDEXES and colours", sum, 0);
                x.paint(number, 0, 4096, 255);
                x.control(number, 7, 255, 65535, true);
                for (int k = 0; k < 256; k++) {
                    x.colour(number, k, 0xFFFFFF);
                }
            }
        }
    }

    private static void controls(int disposal, int transparent, int delay, boolean may) {
        PictureReel x = new PictureReel();
        x.begin(1, 1, 2, 0);
        x.frame(0, 0, 1, 1, 0, false);
        x.frame(0, 0, 1, 1, 0, false);
        x.control(0, 5, 77, 777, false);
        String call = "control(0, " + disposal + ", " + transparent + ", " + delay + ")";
        T.due(call, x.control(0, disposal, transparent, delay, true), may);
        T.due(call + ", DISPOSAL", x.frameOf(0, 6), may ? disposal : 5);
        T.due(call + ", TRANSPARENT", x.frameOf(0, 7), may ? transparent : 77);
        T.due(call + ", DELAY", x.frameOf(0, 8), may ? delay : 777);
        T.due(call + ", INPUT", x.frameOf(0, 9), may ? 1 : 0);
        T.due(call + ", another's", x.frameOf(1, 6) + x.frameOf(1, 7) + x.frameOf(1, 8) + x.frameOf(1, 9), -1);
        T.due(call + ", no INPUT again", x.control(0, 0, -1, 0, false), true);
        T.due(call + ", INPUT", x.frameOf(0, 9), 0);
    }

    /** "DISPOSAL 0 .. 7, TRANSPARENT (an index 0 .. 255, or NONE), DELAY 0 .. 65535" */
    private static void controlsTakeNumbersThatMayBe() {
        for (int number = -3; number <= 300; number++) {
            controls(number, 0, 0, number >= 0 && number <= 7);
            controls(7, number, 65535, number >= -1 && number <= 255);
            controls(0, -1, number, number >= 0);
        }
        for (int number : Edges.inside(0, 65535)) {
            controls(7, 255, number, true);
        }
        for (int number : Edges.outside(0, 7)) {
            controls(number, -1, 0, false);
        }
        for (int number : Edges.outside(-1, 255)) {
            controls(7, number, 65535, false);
        }
        for (int number : Edges.outside(0, 65535)) {
            controls(0, 0, number, false);
        }
    }

    /** "False, changing nothing, for no such FRAME" */
    private static void controlsOfNoFrame() {
        PictureReel x = new PictureReel();
        x.begin(1, 1, 2, 0);
        for (int many = 0; many <= 24; many++) {
            for (int frame : Edges.outside(0, many - 1)) {
                T.due("control(" + frame + ") of " + many, x.control(frame, 1, 1, 1, true), false);
            }
            for (int f = 0; f < many; f++) {
                T.due("control(" + f + ") of " + many, x.control(f, f % 8, f, many, false), true);
                T.due("its DELAY", x.frameOf(f, 8), many);
            }
            x.frame(0, 0, 1, 1, 0, false);
        }
    }

    private static PictureReel paper() {
        PictureReel x = new PictureReel();
        x.begin(4, 3, 4, 0);
        x.frame(1, 0, 2, 1, 0, false);
        x.frame(0, 1, 3, 2, 0, true);
        x.frame(1, 0, 2, 1, 0, false);
        for (int f = 0; f < 3; f++) {
            x.paint(f, 0, x.frameOf(f, 2) * x.frameOf(f, 3), 2);
        }
        return x;
    }

    private static void paints(int i, int many, int index, boolean may) {
        PictureReel x = paper();
        String call = "paint(1, " + i + ", " + many + ", " + index + ")";
        T.due(call, x.paint(1, i, many, index), may);
        for (int p = 0; p < 6; p++) {
            boolean painted = may && p >= i && p < i + many;
            T.due(call + ", place " + p, x.index(1, p), painted ? index : 2);
        }
        for (int f = 0; f < 3; f += 2) {
            T.due(call + ", another's places", x.index(f, 0) * 10 + x.index(f, 1), 22);
        }
    }

    /** "From place i of a FRAME on .. so many places (0, too)" */
    private static void paintTakesPlacesThatThereAre() {
        for (int i = -2; i <= 8; i++) {
            for (int many = -2; many <= 8; many++) {
                boolean places = i >= 0 && many >= 0 && i + many <= 6;
                for (int index = -1; index <= 4; index++) {
                    paints(i, many, index, places && index >= 0 && index < 4);
                }
            }
        }
    }

    private static void paintWhoseSumsWrapAround() {
        int[][] pairs = {{MOST, 1}, {MOST, 2}, {MOST, MOST}, {MOST, 0}, {1, MOST}, {0, MOST}, {6, MOST},
            {7, MOST}, {LEAST, LEAST}, {LEAST, LEAST + 3}, {LEAST, MOST}, {LEAST, 0}, {LEAST, 1},
            {MOST, LEAST}, {MOST, LEAST + 1}, {MOST, LEAST + 4}, {0, LEAST}, {3, LEAST}, {-1, 1},
            {-1, 3}, {-3, 6}, {7, -1}, {7, -7}, {3, -1}, {3, -3}, {6, -1}, {1 << 30, 1 << 30},
            {1 << 31, 1 << 31}, {MOST - 2, 6}, {65536, 1}, {0, 65536}, {65536, 0}, {256, 0}, {0, 256}};
        for (int[] p : pairs) {
            paints(p[0], p[1], 1, false);
            paints(p[0], p[1], 0, false);
        }
    }

    private static void paintOfTheGreatestFrame() {
        PictureReel x = new PictureReel();
        x.begin(64, 64, 256, 0);
        x.frame(0, 0, 64, 64, 0, false);
        x.frame(0, 0, 64, 64, 0, false);
        T.due("the last place", x.paint(0, 4095, 1, 255), true);
        T.due("is painted", x.index(0, 4095), 255);
        T.due("the last but one isn't", x.index(0, 4094), 0);
        T.due("two from the last", x.paint(0, 4095, 2, 9), false);
        T.due("none at the end", x.paint(0, 4096, 0, 9), true);
        T.due("one at the end", x.paint(0, 4096, 1, 9), false);
        T.due("none behind the end", x.paint(0, 4097, 0, 9), false);
        T.due("one more than all", x.paint(0, 0, 4097, 9), false);
        T.due("the last stays", x.index(0, 4095), 255);
        T.due("the first stays", x.index(0, 0), 0);
        T.due("all", x.paint(0, 0, 4096, 254), true);
        T.due("none", x.paint(0, 0, 0, 1), true);
        int others = 0;
        for (int i = 0; i < 4096; i++) {
            others += x.index(0, i) == 254 && x.index(1, i) == 0 ? 0 : 1;
        }
        T.due("places that are others", others, 0);
    }

    /** "INDEX in its TABLE": the LOCAL one, else the GLOBAL one, whichever is greater. */
    private static void paintTakesIndexesOfTheTable() {
        for (int global = 0; global <= 256; global = Math.max(2, global * 2)) {
            for (int local = 0; local <= 256; local = Math.max(2, local * 2)) {
                PictureReel x = new PictureReel();
                x.begin(2, 1, global, 0);
                int size = local == 0 ? global : local;
                T.due("frame", x.frame(0, 0, 2, 1, local, false), size == 0 ? -1 : 0);
                for (int index = -1; index <= 257; index++) {
                    boolean may = index >= 0 && index < size;
                    String call = "INDEX " + index + " of " + local + ", else " + global;
                    T.due(call, x.paint(0, 1, 1, index), may);
                    T.due(call + ", no places", x.paint(0, 1, 0, index), may);
                    int stays = size == 0 ? -1 : Math.max(0, Math.min(index, size - 1));
                    T.due(call + ", the place", x.index(0, 1), stays);
                }
                for (int index : Edges.outside(0, size - 1)) {
                    T.due("INDEX " + index, x.paint(0, 0, 2, index), false);
                }
                T.due("the first place stays", x.index(0, 0), size == 0 ? -1 : 0);
            }
        }
    }

    private static void paintOfNoFrame() {
        PictureReel x = new PictureReel();
        x.begin(1, 1, 2, 0);
        for (int many = 0; many <= 24; many++) {
            for (int frame : Edges.outside(0, many - 1)) {
                T.due("paint(" + frame + ") of " + many, x.paint(frame, 0, 1, 1), false);
                T.due("paint(" + frame + ") of " + many + ", no places", x.paint(frame, 0, 0, 0), false);
            }
            for (int f = 0; f < many; f++) {
                T.due("paint(" + f + ") of " + many, x.paint(f, 0, 1, many % 2), true);
                T.due("its INDEX", x.index(f, 0), many % 2);
            }
            x.frame(0, 0, 1, 1, 0, false);
        }
    }
}
