/** The edges of promises 13 to 16: about, frameOf, colourOf and index. */
public final class AnswerEdgesTest {
    private static final Checks T = new Checks("AnswerEdgesTest");

    public static void main(String[] args) {
        aboutOfOthers();
        aboutAtTheEndsOfItsNumbers();
        frameOfOthers();
        frameOfNoFrame();
        frameOfAtTheEndsOfItsNumbers();
        colourOfTheFrameAsked();
        colourOfNoFrame();
        indexAtTheEndsOfPlaces();
        indexOfNoFrame();
        answersChangeNothing();
        T.finish();
    }

    /** FRAMES of 2 by 1, each with a LOCAL TABLE of its own size. */
    private static PictureReel reelOf(int frames) {
        PictureReel x = new PictureReel();
        x.begin(3, 2, 4, 1);
        for (int f = 0; f < frames; f++) {
            x.frame(f % 2, f / 2 % 2, 2, 1, f % 3 == 0 ? 0 : 2 << f % 8, f % 2 == 0);
        }
        return x;
    }

    /** "NONE for others." */
    private static void aboutOfOthers() {
        for (int frames : new int[] {0, 1, 24}) {
            PictureReel x = reelOf(frames);
            x.write();
            x.feed(1, 2, 3, 4, 5);
            for (int what : Edges.outside(0, 7)) {
                T.due("about(" + what + ")", x.about(what), -1);
            }
        }
    }

    /** "0 WIDTH, 1 HEIGHT, 2 the GLOBAL TABLE's size (0 without), 3 BACKGROUND, 4 ASPECT, 5 FRAMES, 6 bytes of the tape, 7 of OUT." */
    private static void aboutAtTheEndsOfItsNumbers() {
        PictureReel x = new PictureReel();
        Bytes s = new Bytes().add("GIF89a").two(64, 1).add(0x87, 255, 254).colours(new int[256]);
        T.due("read", s.add(0x3B).readBy(x), 0);
        int[] most = {64, 1, 256, 255, 254, 0, 0, 0};
        for (int what = 0; what < most.length; what++) {
            T.due("about(" + what + ")", x.about(what), most[what]);
        }
        Bytes none = new Bytes().add("GIF89a").two(1, 64).add(0x07, 0, 255).add(0x3B);
        T.due("read", none.readBy(x), 0);
        x.write();
        x.feed(1, 2, 3, 4, 5);
        int[] least = {1, 64, 0, 0, 255, 0, 20, 14};
        for (int what = 0; what < least.length; what++) {
            T.due("about(" + what + ")", x.about(what), least[what]);
        }
        T.due("24 FRAMES", reelOf(24).about(5), 24);
        Sizes.draw(x, 12000);
        x.write();
        x.take();
        T.due("12,000 bytes of the tape", x.about(6), 12000);
        T.due("12,000 bytes of OUT", x.about(7), 12000);
    }

    private static void frameOfOthers() {
        PictureReel x = reelOf(24);
        for (int f : new int[] {0, 1, 23}) {
            for (int what : Edges.outside(0, 9)) {
                T.due("frameOf(" + f + ", " + what + ")", x.frameOf(f, what), -1);
            }
        }
    }

    private static void frameOfNoFrame() {
        for (int frames : new int[] {0, 1, 2, 23, 24}) {
            PictureReel x = reelOf(frames);
            for (int f : Edges.outside(0, frames - 1)) {
                for (int what = -1; what <= 10; what++) {
                    T.due("frameOf(" + f + ", " + what + ") of " + frames, x.frameOf(f, what), -1);
                }
            }
            T.due("the last FRAME", x.frameOf(frames - 1, 2), frames == 0 ? -1 : 2);
        }
        PictureReel x = reelOf(24);
        x.begin(3, 2, 4, 1);
        x.frame(0, 0, 1, 1, 0, false);
        T.due("a FRAME of the former picture", x.frameOf(1, 2), -1);
    }

    /** "0 LEFT, 1 TOP, 2 WIDTH, 3 HEIGHT, 4 its LOCAL TABLE's size (0 without), 5 INTERLACED (1, 0), .." */
    private static void frameOfAtTheEndsOfItsNumbers() {
        PictureReel x = new PictureReel();
        x.begin(64, 64, 0, 0);
        x.frame(63, 62, 1, 2, 256, true);
        x.control(0, 7, 255, 65535, true);
        int[] most = {63, 62, 1, 2, 256, 1, 7, 255, 65535, 1};
        x.frame(0, 0, 64, 63, 2, false);
        int[] least = {0, 0, 64, 63, 2, 0, 0, -1, 0, 0};
        for (int what = 0; what < most.length; what++) {
            T.due("frameOf(0, " + what + ")", x.frameOf(0, what), most[what]);
            T.due("frameOf(1, " + what + ")", x.frameOf(1, what), least[what]);
        }
        x.control(1, 0, 0, 1, false);
        T.due("TRANSPARENT 0 is one", x.frameOf(1, 7), 0);
        x.control(1, 0, -1, 1, false);
        T.due("TRANSPARENT NONE", x.frameOf(1, 7), -1);
    }

    /** "Colour k of a FRAME's LOCAL TABLE, or of the GLOBAL one (NONE). NONE if there is none such." */
    private static void colourOfTheFrameAsked() {
        PictureReel x = reelOf(24);
        for (int f = -1; f < 24; f++) {
            int size = f < 0 ? 4 : x.frameOf(f, 4);
            for (int k = 0; k < size; k++) {
                T.due("colour(" + f + ", " + k + ")", x.colour(f, k, (f + 2) * 1000 + k), true);
            }
        }
        for (int f = -1; f < 24; f++) {
            int size = f < 0 ? 4 : x.frameOf(f, 4);
            for (int k = -1; k <= 257; k++) {
                int due = k >= 0 && k < size ? (f + 2) * 1000 + k : -1;
                T.due("colourOf(" + f + ", " + k + ")", x.colourOf(f, k), due);
            }
            for (int k : Edges.outside(0, size - 1)) {
                T.due("colourOf(" + f + ", " + k + ")", x.colourOf(f, k), -1);
            }
        }
    }

    private static void colourOfNoFrame() {
        for (int frames : new int[] {0, 1, 24}) {
            PictureReel x = reelOf(frames);
            for (int f : Edges.outside(-1, frames - 1)) {
                T.due("colourOf(" + f + ", 0)", x.colourOf(f, 0), -1);
                T.due("colourOf(" + f + ", -1)", x.colourOf(f, -1), -1);
                T.due("colourOf(" + f + ", 1)", x.colourOf(f, 1), -1);
            }
        }
        PictureReel none = new PictureReel();
        T.due("no GLOBAL TABLE", none.colourOf(-1, 0), -1);
        none.frame(0, 0, 1, 1, 2, false);
        T.due("still none", none.colourOf(-1, 0), -1);
        T.due("but a LOCAL one", none.colourOf(0, 1), 0);
    }

    /** "The INDEX at place i of a FRAME. NONE if there is none such." */
    private static void indexAtTheEndsOfPlaces() {
        for (int[] size : new int[][] {{1, 1}, {2, 3}, {3, 2}, {64, 1}, {1, 64}, {64, 64}}) {
            PictureReel x = new PictureReel();
            int places = size[0] * size[1];
            x.begin(64, 64, 256, 0);
            x.frame(64 - size[0], 64 - size[1], size[0], size[1], 0, true);
            x.frame(0, 0, 64, 64, 0, false);
            x.paint(1, 0, 4096, 7);
            for (int i = 0; i < places; i++) {
                x.paint(0, i, 1, (i * 5 + 1) % 256);
            }
            for (int i = 0; i < places; i++) {
                T.due("place " + i + " of " + places, x.index(0, i), (i * 5 + 1) % 256);
            }
            for (int i : Edges.outside(0, places - 1)) {
                T.due("place " + i + " of " + places, x.index(0, i), -1);
            }
        }
    }

    private static void indexOfNoFrame() {
        for (int frames : new int[] {0, 1, 2, 24}) {
            PictureReel x = reelOf(frames);
            for (int f : Edges.outside(0, frames - 1)) {
                T.due("index(" + f + ", 0)", x.index(f, 0), -1);
                T.due("index(" + f + ", -1)", x.index(f, -1), -1);
            }
        }
    }

    /** Whatever is asked, also of what there is not, all stays. */
    private static void answersChangeNothing() {
        PictureReel x = reelOf(5);
        x.write();
        x.feed(1, 2, 3, 4, 5);
        Snapshot before = Snapshot.whole(x);
        int[] numbers = {Edges.LEAST, -3, -2, -1, 0, 1, 2, 4, 5, 6, 11999, 12000, Edges.MOST};
        for (int a : numbers) {
            x.about(a);
            x.out(a);
            x.fault(a);
            for (int b : numbers) {
                x.frameOf(a, b);
                x.colourOf(a, b);
                x.index(a, b);
                x.canvas(a, b, 0);
                x.canvas(0, a, b);
            }
        }
        T.due("all stays", before.difference(Snapshot.whole(x)).isEmpty(), true);
    }
}
