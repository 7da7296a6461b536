/** Promises 2, 3 and 12: feed, take, out (and the lengths that about tells, promise 13). */
public final class TapeTest {
    private static final Checks T = new Checks("TapeTest");

    public static void main(String[] args) {
        bytesComeHighestFirst();
        takeGivesOutToTheTape();
        outAnswersBytes();
        tapeHoldsTwelveThousand();
        T.finish();
    }

    private static void bytesComeHighestFirst() {
        PictureReel x = new PictureReel();
        T.due("first feed", x.feed(0x47494638, 0x39610200, 0x01000007, 0xFF3B0000, 0), 20);
        T.due("second feed", x.feed(-1, -1, -1, -1, -1), 40);
        T.due("about(6)", x.about(6), 40);
        T.due("about(7)", x.about(7), 0);
        T.due("read(14)", x.read(14), 0);
        T.due("WIDTH", x.about(0), 2);
        T.due("HEIGHT", x.about(1), 1);
        T.due("BACKGROUND", x.about(3), 7);
        T.due("ASPECT", x.about(4), 255);
        T.due("the tape is empty behind read", x.about(6), 0);
        T.due("feed behind read", x.feed(0, 0, 0, 0, 0), 20);
    }

    private static void takeGivesOutToTheTape() {
        PictureReel x = new PictureReel();
        x.begin(3, 2, 4, 1);
        T.due("write", x.write(), 26);
        x.feed(1, 2, 3, 4, 5);
        x.feed(1, 2, 3, 4, 5);
        T.due("the tape becomes OUT, not longer by it", x.take(), 26);
        T.due("about(6)", x.about(6), 26);
        T.due("OUT stays", x.about(7), 26);
        T.due("feed comes behind it", x.feed(0x01020304, 0, 0, 0, 0), 46);
        T.due("OUT has nothing of it", x.about(7), 26);
        T.due("read with what came behind", x.read(27), -1);
        T.due("its fault", x.fault(0), 10);
        T.due("its place", x.fault(1), 26);
        T.due("take again", x.take(), 26);
        T.due("begin", x.begin(1, 1, 0, 0), true);
        T.due("read", x.read(26), 0);
        T.due("WIDTH", x.about(0), 3);
        T.due("OUT still", x.out(0), 'G');
    }

    private static void outAnswersBytes() {
        PictureReel x = new PictureReel();
        T.due("write", x.write(), 14);
        int[] due = {'G', 'I', 'F', '8', '9', 'a', 1, 0, 1, 0, 0x70, 0, 0, 0x3B};
        for (int i = 0; i < due.length; i++) {
            T.due("out(" + i + ")", x.out(i), due[i]);
        }
        T.due("out(-1)", x.out(-1), -1);
        T.due("out(14)", x.out(14), -1);
        T.due("out(least)", x.out(Integer.MIN_VALUE), -1);
        T.due("out(most)", x.out(Integer.MAX_VALUE), -1);
        x.begin(1, 1, 256, 255);
        x.colour(-1, 0, 0xFFFEFD);
        T.due("write", x.write(), 782);
        T.due("a byte above 127", x.out(13), 255);
        T.due("the next", x.out(14), 254);
        T.due("write of a shorter one", x.begin(1, 1, 0, 0) ? x.write() : 0, 14);
        T.due("out behind the shorter one", x.out(14), -1);
    }

    private static void tapeHoldsTwelveThousand() {
        PictureReel x = new PictureReel();
        WriteTest.begin11980(x);
        T.due("write", x.write(), 11980);
        T.due("take", x.take(), 11980);
        T.due("feed up to 12,000", x.feed(1, 2, 3, 4, 5), 12000);
        T.due("feed beyond", x.feed(1, 2, 3, 4, 5), -1);
        T.due("none came", x.about(6), 12000);
        T.due("read all", x.read(12000), -1);
        T.due("fault", x.fault(0), 10);
        T.due("place", x.fault(1), 11980);
        PictureReel z = new PictureReel();
        WriteTest.begin11981(z);
        T.due("write", z.write(), 11981);
        T.due("take", z.take(), 11981);
        T.due("feed one beyond", z.feed(1, 2, 3, 4, 5), -1);
        T.due("none came", z.about(6), 11981);
        PictureReel y = new PictureReel();
        WriteTest.begin11980(y);
        y.write();
        y.begin(1, 1, 0, 0);
        y.take();
        T.due("read what was written", y.read(11980), 16);
        y.write();
        y.frame(0, 0, 1, 1, 0, false);
        T.due("write", y.write(), -1);
        T.due("tape of 11,980", y.take(), 11980);
    }
}
