/** The edges of promises 1 to 5 and 12: a new object, feed, take, read's n, fault and out. */
public final class TapeEdgesTest {
    private static final Checks T = new Checks("TapeEdgesTest");

    public static void main(String[] args) {
        newObjectHasNothing();
        feedPutsEachOfTwentyBytes();
        feedComesBehindAnyLength();
        feedFillsTwelveThousand();
        takeOfAnEmptyOutEmptiesTheTape();
        takePutsOutInTheTapesPlace();
        takeOfAsMuchAsThereMayBe();
        tapeAndOutAreTwoThings();
        readOfLengthsThatMayBe();
        readOfLengthsThatMayNotBe();
        readUsesTheFirstBytesAlone();
        faultAheadOfAnyRead();
        faultOfTheLatestRead();
        faultOfOthers();
        outAtItsEnds();
        T.finish();
    }

    /** "A picture of 1 by 1, without GLOBAL TABLE, BACKGROUND and ASPECT 0, no FRAMES; an empty tape and OUT." */
    private static void newObjectHasNothing() {
        PictureReel x = new PictureReel();
        int[] due = {1, 1, 0, 0, 0, 0, 0, 0};
        for (int what = 0; what < due.length; what++) {
            T.due("a new object's about(" + what + ")", x.about(what), due[what]);
        }
        T.due("a new object has no byte of OUT", x.out(0), -1);
        T.due("a new object has no byte on the tape", x.read(1), -2);
        T.due("a new object's stream is empty", x.read(0), -1);
        T.due("it ends at 0", x.fault(0) * 10 + x.fault(1), 20);
        PictureReel drawn = new PictureReel();
        T.due("begin as a new object is", drawn.begin(1, 1, 0, 0), true);
        T.due("is the same", Snapshot.picture(x).difference(Snapshot.picture(drawn)).isEmpty(), true);
    }

    /** A stream of 256 colours whose bytes tell their places, and 0x3B. */
    private static Bytes telling(int from) {
        Bytes s = new Bytes().add("GIF89a").two(1, 1).add(0x87, 0, 0);
        for (int i = 0; i < 768; i++) {
            s.add(from + i * 37);
        }
        return s.add(0x3B);
    }

    private static void tells(String what, PictureReel x, Bytes s) {
        int wrong = 0;
        for (int k = 0; k < 256; k++) {
            int at = 13 + 3 * k;
            wrong += x.colourOf(-1, k) == (s.at(at) << 16 | s.at(at + 1) << 8 | s.at(at + 2)) ? 0 : 1;
        }
        T.due(what + ": colours that are others", wrong, 0);
    }

    /** "Twenty bytes come behind the tape, the highest of a first: how many it has." */
    private static void feedPutsEachOfTwentyBytes() {
        for (int from : new int[] {0, 101, 255}) {
            Bytes s = telling(from);
            PictureReel x = new PictureReel();
            for (int at = 0; at < s.size(); at += 20) {
                T.due("feed at " + at, x.feed(s.word(at), s.word(at + 4), s.word(at + 8),
                        s.word(at + 12), s.word(at + 16)), at + 20);
            }
            T.due("about(6)", x.about(6), 800);
            T.due("read", x.read(s.size()), 0);
            tells("fed bytes from " + from, x, s);
        }
        for (int word : new int[] {0, -1, 1, Edges.LEAST, Edges.MOST, 0xFF, 0xFF00, 0x80, 0x8000}) {
            PictureReel x = new PictureReel();
            Bytes s = new Bytes().add("GIF89a").two(1, 1).add(0x87, 0, 0);
            s.add(0, 0, 0, 0, 0, 0, 0);
            for (int i = 0; i < 190; i++) {
                s.add(word >> 24, word >> 16, word >> 8, word);
            }
            s.add(0, 0x3B);
            T.due("read of words " + word, s.readBy(x), 0);
            tells("words " + word, x, s);
        }
    }

    /** "Twenty bytes come behind the tape", also where it has no multiple of 20. */
    private static void feedComesBehindAnyLength() {
        PictureReel x = new PictureReel();
        T.due("write", x.write(), 14);
        T.due("take", x.take(), 14);
        T.due("feed behind 14", x.feed(0x01020304, 0, 0, 0, 5), 34);
        T.due("feed behind 34", x.feed(1, 2, 3, 4, 5), 54);
        T.due("read of the first 15", x.read(15), -1);
        T.due("the 15th is behind 0x3B", x.fault(0) * 100 + x.fault(1), 1014);
        T.due("feed behind a read", x.feed(1, 2, 3, 4, 5), 20);
    }

    private static PictureReel taped(int bytes) {
        PictureReel x = new PictureReel();
        Sizes.draw(x, bytes);
        T.due("write of " + bytes, x.write(), bytes);
        T.due("take of " + bytes, x.take(), bytes);
        return x;
    }

    /** "NONE, and none come, if there would be more than 12,000." */
    private static void feedFillsTwelveThousand() {
        for (int bytes = 11958; bytes <= 12000; bytes++) {
            PictureReel x = taped(bytes);
            boolean fits = bytes + 20 <= 12000;
            T.due("feed behind " + bytes, x.feed(1, 2, 3, 4, 5), fits ? bytes + 20 : -1);
            T.due("the tape has", x.about(6), fits ? bytes + 20 : bytes);
            boolean again = bytes + 40 <= 12000;
            T.due("feed again", x.feed(1, 2, 3, 4, 5), again ? bytes + 40 : -1);
            int many = again ? bytes + 40 : fits ? bytes + 20 : bytes;
            T.due("none came", x.about(6), many);
            T.due("no more can be read", x.read(many + 1), -2);
            T.due("FRAMES of its first bytes", x.read(bytes), x.about(5));
            T.due("feed of the empty tape", x.feed(1, 2, 3, 4, 5), 20);
        }
    }

    /** "The tape becomes OUT": an empty one. */
    private static void takeOfAnEmptyOutEmptiesTheTape() {
        PictureReel x = new PictureReel();
        T.due("take of nothing to nothing", x.take(), 0);
        x.feed(1, 2, 3, 4, 5);
        T.due("take of nothing", x.take(), 0);
        T.due("the tape is empty", x.about(6), 0);
        T.due("OUT is empty still", x.about(7), 0);
        T.due("nothing to read", x.read(1), -2);
        T.due("feed", x.feed(1, 2, 3, 4, 5), 20);
    }

    /** "The tape becomes OUT: how many bytes": a longer tape and a shorter one. */
    private static void takePutsOutInTheTapesPlace() {
        for (int feeds : new int[] {0, 1, 2, 50}) {
            PictureReel x = new PictureReel();
            x.begin(3, 5, 4, 2);
            T.due("write", x.write(), 26);
            for (int i = 0; i < feeds; i++) {
                x.feed(-1, -1, -1, -1, -1);
            }
            T.due("take in the place of " + 20 * feeds, x.take(), 26);
            T.due("about(6)", x.about(6), 26);
            T.due("take again", x.take(), 26);
            T.due("about(7)", x.about(7), 26);
            x.begin(1, 1, 0, 0);
            T.due("read(27)", x.read(27), -2);
            T.due("read(26)", x.read(26), 0);
            T.due("what was written", x.about(0) * 100 + x.about(1) * 10 + x.about(3), 352);
        }
    }

    private static void takeOfAsMuchAsThereMayBe() {
        PictureReel x = taped(12000);
        Snapshot written = Snapshot.picture(x);
        x.begin(1, 1, 0, 0);
        T.due("read of 12,000", x.read(12000) > 0, true);
        T.due("is what was written", written.difference(Snapshot.picture(x)).isEmpty(), true);
    }

    /** OUT stays when the tape changes, and the tape when OUT does. */
    private static void tapeAndOutAreTwoThings() {
        PictureReel x = new PictureReel();
        x.begin(3, 5, 4, 2);
        x.write();
        Snapshot out = Snapshot.out(x);
        x.take();
        T.due("take leaves OUT", out.difference(Snapshot.out(x)).isEmpty(), true);
        x.feed(-1, -1, -1, -1, -1);
        T.due("feed leaves OUT", out.difference(Snapshot.out(x)).isEmpty(), true);
        x.begin(64, 64, 2, 1);
        T.due("write of another", x.write(), 20);
        T.due("write leaves the tape", x.about(6), 46);
        T.due("the tape is what OUT was", x.read(26), 0);
        T.due("of that picture", x.about(0) * 100 + x.about(1) * 10 + x.about(3), 352);
        T.due("read leaves OUT", x.about(7) * 100 + x.out(6), 2064);
        x.take();
        T.due("write again", x.write(), 26);
        T.due("take behind it", x.take(), 26);
        T.due("read", x.read(26), 0);
    }

    /** "The first n bytes of the tape": from none to all. */
    private static void readOfLengthsThatMayBe() {
        for (int n = 0; n <= 20; n++) {
            PictureReel x = new PictureReel();
            x.feed(0x47494638, 0x39610100, 0x01000000, 0x003B0000, 0);
            int kind = n < 14 ? 2 : n == 14 ? 0 : 10;
            T.due("read(" + n + ") of 20", x.read(n), kind == 0 ? 0 : -1);
            T.due("its fault", x.fault(0), kind);
            T.due("its place", x.fault(1), kind == 2 ? n : kind == 0 ? -1 : 14);
            T.due("the tape is empty then", x.about(6), 0);
            T.due("there is no more", x.read(1), -2);
            T.due("read(0)", x.read(0), -1);
            T.due("ends too early, at 0", x.fault(0) * 10 + x.fault(1), 20);
        }
    }

    /** "-2, and nothing is done: n is below 0, or more than there are." */
    private static void readOfLengthsThatMayNotBe() {
        for (int feeds = 0; feeds <= 3; feeds++) {
            PictureReel x = new PictureReel();
            x.begin(2, 3, 2, 1);
            for (int i = 0; i < feeds; i++) {
                x.feed(0x47494638, 0x39610100, 0x01000000, 0x003B0000, 0);
            }
            for (int n : Edges.outside(0, 20 * feeds)) {
                T.due("read(" + n + ") of " + 20 * feeds, x.read(n), -2);
                T.due("the tape stays", x.about(6), 20 * feeds);
                T.due("no fault of it", x.fault(0) * 10 + x.fault(1), -11);
                T.due("the picture stays", x.about(0), 2);
            }
            T.due("its bytes stay", x.read(feeds == 0 ? 0 : 14), feeds == 0 ? -1 : 0);
            T.due("fault", x.fault(0), feeds == 0 ? 2 : 0);
            T.due("read(1) then", x.read(1), -2);
            T.due("the fault stays", x.fault(0), feeds == 0 ? 2 : 0);
            T.due("its place stays", x.fault(1), feeds == 0 ? 0 : -1);
        }
    }

    private static void readUsesTheFirstBytesAlone() {
        PictureReel x = new PictureReel();
        Bytes s = Bytes.screen(2, 2, 0, 1, 2).image(0, 0, 1, 1, Bytes.single(1));
        s.image(1, 1, 1, 1, Bytes.single(0)).add(0x3B);
        // 0x3B stands where the second IMAGE begins
        Bytes cut = s.first(s.size()).set(19 + 15, 0x3B);
        cut.feedTo(x);
        T.due("one FRAME", x.read(19 + 16), 1);
        T.due("no fault", x.fault(0), 0);
        s.feedTo(x);
        T.due("two FRAMES", x.read(s.size()), 2);
    }

    /** "NONE for others, and ahead of any." */
    private static void faultAheadOfAnyRead() {
        PictureReel x = new PictureReel();
        for (int round = 0; round < 2; round++) {
            T.due("fault(0) ahead of any", x.fault(0), -1);
            T.due("fault(1) ahead of any", x.fault(1), -1);
            for (int what : Edges.outside(0, 1)) {
                T.due("fault(" + what + ") ahead of any", x.fault(what), -1);
            }
            x.feed(1, 2, 3, 4, 5);
            x.read(21);
            x.read(-1);
            x.begin(2, 2, 2, 0);
            x.write();
            x.take();
        }
    }

    /** "Of the latest read() that was not -2: 0 its FAULT (0 without), 1 its place (NONE without)." */
    private static void faultOfTheLatestRead() {
        PictureReel x = new PictureReel();
        int[][] reads = {{14, 0, -1}, {13, 2, 13}, {20, 10, 14}, {14, 0, -1}, {0, 2, 0}, {14, 0, -1}};
        for (int[] r : reads) {
            x.feed(0x47494638, 0x39610100, 0x01000000, 0x003B0000, 0);
            x.read(r[0]);
            for (int round = 0; round < 2; round++) {
                T.due("fault(0) of read(" + r[0] + ")", x.fault(0), r[1]);
                T.due("fault(1) of read(" + r[0] + ")", x.fault(1), r[2]);
                x.read(1);
                x.read(Edges.LEAST);
                x.begin(round, 2, 2, 0);
                x.begin(2, 2, 2, 0);
                x.write();
                x.take();
                x.read(x.about(6) + 1);
                x.feed(1, 2, 3, 4, 5);
                x.read(Edges.MOST);
            }
            x.read(0);
        }
    }

    private static void faultOfOthers() {
        PictureReel x = new PictureReel();
        for (int n : new int[] {14, 20}) {
            x.feed(0x47494638, 0x39610100, 0x01000000, 0x003B0000, 0);
            x.read(n);
            for (int what : Edges.outside(0, 1)) {
                T.due("fault(" + what + ") behind read(" + n + ")", x.fault(what), -1);
            }
        }
    }

    /** "Byte i of OUT. NONE if there is none such." */
    private static void outAtItsEnds() {
        PictureReel x = new PictureReel();
        for (int i : Edges.outside(0, -1)) {
            T.due("out(" + i + ") of nothing", x.out(i), -1);
        }
        for (int bytes : new int[] {832, 11999, 12000}) {
            Sizes.draw(x, bytes);
            T.due("write", x.write(), bytes);
            T.due("the first of " + bytes, x.out(0), 'G');
            T.due("the second of " + bytes, x.out(1), 'I');
            T.due("the last but one of " + bytes, x.out(bytes - 2), 0);
            T.due("the last of " + bytes, x.out(bytes - 1), 0x3B);
            for (int i : Edges.outside(0, bytes - 1)) {
                T.due("out(" + i + ") of " + bytes, x.out(i), -1);
            }
        }
        x.begin(1, 1, 2, 0);
        x.colour(-1, 0, 0xFF807F);
        x.write();
        T.due("a byte of 255", x.out(13), 255);
        T.due("a byte of 128", x.out(14), 128);
        T.due("a byte of 127", x.out(15), 127);
        T.due("the last of a shorter one", x.out(19), 0x3B);
        T.due("behind a shorter one", x.out(20), -1);
        T.due("far behind a shorter one", x.out(11999), -1);
    }
}
