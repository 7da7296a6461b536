import java.util.Random;

/** Promise 11: write, byte by byte, and as a stream that is the same picture when it is read. */
public final class WriteTest {
    private static final Checks T = new Checks("WriteTest");

    public static void main(String[] args) {
        writesScreens();
        writesFrames();
        writesLeast();
        writesRowsOf255();
        writesInterlaced();
        clearsAtTheLastRow();
        holdsTwelveThousand();
        staysTheSamePicture();
        T.finish();
    }

    private static void written(String what, PictureReel x, Bytes due) {
        T.due(what + ": length", x.write(), due.size());
        T.due(what + ": about(7)", x.about(7), due.size());
        for (int i = 0; i < due.size(); i++) {
            T.due(what + ": out(" + i + ")", x.out(i), due.at(i));
        }
        T.due(what + ": behind it", x.out(due.size()), -1);
    }

    private static void writesScreens() {
        PictureReel x = new PictureReel();
        for (int power = 1; power <= 8; power++) {
            int size = 1 << power;
            x.begin(7, 64, size, 200);
            Bytes due = new Bytes().add("GIF89a").two(7, 64).add(0xF0 | power - 1, 200, 0);
            for (int k = 0; k < size; k++) {
                if (power < 6) {
                    x.colour(-1, k, 0xF0E0D0 + k);
                }
                due.colours(power < 6 ? 0xF0E0D0 + k : 0);
            }
            written("table of " + size, x, due.add(0x3B));
        }
        Bytes aspect = new Bytes().add("GIF87a").two(64, 1).add(0, 9, 49, 0x3B);
        T.due("read", aspect.readBy(x), 0);
        written("ASPECT", x, new Bytes().add("GIF89a").two(64, 1).add(0x70, 9, 49, 0x3B));
    }

    private static void writesFrames() {
        PictureReel x = new PictureReel();
        x.begin(6, 5, 4, 1);
        x.frame(2, 1, 4, 1, 0, false);
        x.paint(0, 0, 3, 1);
        x.paint(0, 3, 1, 2);
        x.control(0, 5, 0, 0x1234, true);
        x.frame(0, 4, 1, 1, 2, true);
        x.colour(1, 1, 0x010203);
        x.paint(1, 0, 1, 1);
        x.control(1, 2, -1, 1, false);
        Bytes due = new Bytes().add("GIF89a").two(6, 5).add(0xF1, 1, 0).colours(0, 0, 0, 0);
        due.control(5 << 2 | 2 | 1, 0x1234, 0).add(0x2C).two(2, 1, 4, 1).add(0, 2);
        due.rows(Bytes.codes(4, 3, 1, 3, 6, 3, 2, 3, 5, 4), 255);
        due.control(2 << 2, 1, 0).add(0x2C).two(0, 4, 1, 1).add(0xC0).colours(0, 0x010203).add(2);
        due.rows(Bytes.single(1), 255).add(0x3B);
        written("two FRAMES", x, due);
        T.due("the picture stays", x.about(5), 2);
        x.control(1, 7, 255, 65535, false);
        T.due("write", x.write(), due.size());
        int at = due.size() - 30;
        T.due("its bits", x.out(at + 3), 7 << 2 | 1);
        T.due("its DELAY", x.out(at + 4) * 256 + x.out(at + 5), 65535);
        T.due("its TRANSPARENT", x.out(at + 6), 255);
    }

    private static void writesLeast() {
        for (int power = 1; power <= 8; power++) {
            PictureReel x = new PictureReel();
            int size = 1 << power;
            int least = Math.max(2, power);
            x.begin(3, 1, 0, 0);
            x.frame(0, 0, 3, 1, size, false);
            x.paint(0, 1, 1, size - 1);
            Bytes due = new Bytes().add("GIF89a").two(3, 1).add(0x70, 0, 0).control(0, 0, 0);
            due.add(0x2C).two(0, 0, 3, 1).add(0x80 | power - 1).colours(new int[size]).add(least);
            int bits = least + 1;
            int stopBits = least == 2 ? 4 : bits;
            Bytes codes = Bytes.codes(1 << least, bits, 0, bits, size - 1, bits, 0, bits,
                    (1 << least) + 1, stopBits);
            written("LEAST " + least, x, due.rows(codes, 255).add(0x3B));
        }
    }

    private static Bytes outCodes(PictureReel x, int from) {
        Bytes codes = new Bytes();
        int at = from;
        while (x.out(at) > 0) {
            int many = x.out(at);
            for (int i = 1; i <= many; i++) {
                codes.add(x.out(at + i));
            }
            at += many + 1;
        }
        return codes;
    }

    /** Places of 256 colours in no order, so that there are about as many codes as places. */
    private static void writesRowsOf255() {
        boolean seenWhole = false;
        for (int width = 1; width <= 64; width++) {
            PictureReel x = new PictureReel();
            x.begin(width, 8, 256, 0);
            x.frame(0, 0, width, 8, 0, false);
            Random random = new Random(width);
            StringBuilder text = new StringBuilder();
            for (int i = 0; i < width * 8; i++) {
                int index = random.nextInt(256);
                text.append((char) index);
                x.paint(0, i, 1, index);
            }
            Bytes codes = Bytes.codes(PlainReel.codesOf(text.toString(), 8));
            Bytes due = new Bytes().rows(codes, 255);
            int from = 13 + 768 + 8 + 11;
            T.due("length at WIDTH " + width, x.write(), from + due.size() + 1);
            boolean same = true;
            for (int i = 0; i < due.size(); i++) {
                same &= x.out(from + i) == due.at(i);
            }
            T.due("rows at WIDTH " + width, same, true);
            seenWhole |= codes.size() % 255 == 0;
        }
        T.due("a whole last row is met", seenWhole || wholeLastRow(), true);
    }

    /** Searches a picture whose codes are 255 bytes, and looks at its rows. */
    private static boolean wholeLastRow() {
        for (int many = 200; many < 256; many++) {
            for (int seed = 0; seed < 20; seed++) {
                StringBuilder text = new StringBuilder();
                Random random = new Random(seed);
                for (int i = 0; i < many; i++) {
                    text.append((char) random.nextInt(256));
                }
                Bytes codes = Bytes.codes(PlainReel.codesOf(text.toString(), 8));
                if (codes.size() == 255 && (many % 4 == 0)) {
                    PictureReel x = new PictureReel();
                    x.begin(many / 4, 4, 256, 0);
                    x.frame(0, 0, many / 4, 4, 0, false);
                    for (int i = 0; i < many; i++) {
                        x.paint(0, i, 1, text.charAt(i));
                    }
                    T.due("length", x.write(), 800 + 1 + 255 + 1 + 1);
                    T.due("a row of 255", x.out(800), 255);
                    T.due("no empty row but the 0", x.out(800 + 256), 0);
                    T.due("the end", x.out(800 + 257), 0x3B);
                    return true;
                }
            }
        }
        return false;
    }

    private static void writesInterlaced() {
        PictureReel x = new PictureReel();
        x.begin(1, 10, 16, 0);
        x.frame(0, 0, 1, 10, 0, true);
        for (int y = 0; y < 10; y++) {
            x.paint(0, y, 1, y);
        }
        x.write();
        int mark = 13 + 48 + 8 + 9;
        T.due("its byte", x.out(mark), 0x40);
        T.due("LEAST", x.out(mark + 1), 4);
        Bytes due = Bytes.codes(PlainReel.codesOf("\0\10\4\2\6\1\3\5\7\11", 4));
        T.due("its codes", outCodes(x, mark + 2).same(due), true);
    }

    /** A picture of INDEXES in which all pairs differ, read from a stream that is CLEARED often. */
    private static PictureReel pairs(String text, int width, int height) {
        int[] codes = new int[2 * (text.length() + text.length() / 200 + 3)];
        int at = 0;
        for (int i = 0; i < text.length(); i++) {
            if (i % 200 == 0) {
                codes[at++] = 256;
                codes[at++] = 9;
            }
            codes[at++] = text.charAt(i);
            codes[at++] = 9;
        }
        codes[at++] = 257;
        codes[at++] = 9;
        PictureReel x = new PictureReel();
        Bytes s = Bytes.screen(width, height, 0, new int[256]);
        s.add(0x2C).two(0, 0, width, height).add(0, 8);
        s.rows(Bytes.codes(java.util.Arrays.copyOf(codes, at)), 255).add(0x3B);
        T.due("read of pairs", s.readBy(x), 1);
        return x;
    }

    private static String differentPairs(int many) {
        StringBuilder text = new StringBuilder();
        for (int step = 1; text.length() < many; step += 2) {
            for (int i = 0; i < 256 && text.length() < many; i++) {
                text.append((char) ((i * step + step) & 255));
            }
        }
        return text.toString();
    }

    private static void clearsAtTheLastRow() {
        String text = differentPairs(4096);
        for (int[] size : new int[][] {{60, 64}, {64, 64}, {61, 63}}) {
            int many = size[0] * size[1];
            checkCodes("all pairs differ, " + many, text.substring(0, many), size, many == 3840);
        }
        // one pair comes twice: a code less, so that the last one makes NEXT 4096, and STOP comes
        String twice = text.substring(0, 2) + text.substring(0, 3838);
        checkCodes("one pair twice", twice, new int[] {60, 64}, false);
    }

    private static void checkCodes(String what, String text, int[] size, boolean clearedLast) {
        PictureReel x = pairs(text, size[0], size[1]);
        int[] due = PlainReel.codesOf(text, 8);
        x.write();
        T.due(what + ": codes", outCodes(x, 13 + 768 + 8 + 11).same(Bytes.codes(due)), true);
        if (clearedLast) {
            T.due(what + ": CLEAR at 12 bits", due[due.length - 6] * 100 + due[due.length - 5], 25612);
            T.due(what + ": STOP at 9 bits", due[due.length - 2] * 100 + due[due.length - 1], 25709);
        }
        if (what.equals("one pair twice")) {
            T.due(what + ": codes", due.length / 2, 3839 + 2);
            T.due(what + ": STOP at 12 bits", due[due.length - 2] * 100 + due[due.length - 1], 25712);
        }
        T.due(what + ": read again", x.take() > 0 ? x.read(x.about(6)) : 0, 1);
        boolean same = true;
        for (int i = 0; i < text.length(); i++) {
            same &= x.index(0, i) == text.charAt(i);
        }
        T.due(what + ": all INDEXES", same, true);
    }

    /** 13 and 768, 14 FRAMES of 793 with 256 colours each, one of 71, one of 25, the last byte. */
    static void begin11980(PictureReel x) {
        begin11884(x);
        x.frame(0, 0, 1, 1, 16, false);
        x.frame(0, 0, 1, 1, 0, false);
    }

    /** The same, but one of 47 and two of 25. */
    static void begin11981(PictureReel x) {
        begin11884(x);
        x.frame(0, 0, 1, 1, 8, false);
        x.frame(0, 0, 1, 1, 0, false);
        x.frame(0, 0, 1, 1, 0, false);
    }

    private static void begin11884(PictureReel x) {
        x.begin(64, 64, 256, 0);
        for (int f = 0; f < 14; f++) {
            x.frame(0, 0, 1, 1, 256, false);
        }
    }

    private static void holdsTwelveThousand() {
        PictureReel x = new PictureReel();
        begin11884(x);
        T.due("11,884", x.write(), 11884);
        for (int f = 0; f < 4; f++) {
            x.frame(0, 0, f == 3 ? 4 : 1, 1, 2, false);
        }
        x.paint(17, 1, 2, 0);
        T.due("12,000", x.write(), 12000);
        T.due("its last byte", x.out(11999), 0x3B);
        T.due("behind it", x.out(12000), -1);
        T.due("taken", x.take(), 12000);
        x.begin(1, 1, 0, 0);
        T.due("read", x.read(12000), 18);
        x.paint(17, 1, 2, 1);
        T.due("12,001", x.write(), -1);
        T.due("OUT stays", x.about(7), 12000);
        T.due("its last byte stays", x.out(11999), 0x3B);
        x.paint(17, 0, 4, 0);
        T.due("12,000 again", x.write(), 12000);
        for (int f = 18; f < 24; f++) {
            x.frame(0, 0, 64, 64, 256, true);
        }
        T.due("far more", x.write(), -1);
        T.due("OUT stays", x.about(7), 12000);
        x.begin(1, 1, 0, 0);
        T.due("a small one behind it", x.write(), 14);
    }

    private static void staysTheSamePicture() {
        for (int seed = 0; seed < 60; seed++) {
            Random random = new Random(seed);
            PictureReel x = RandomRunsTest.randomPicture(random, seed % 9 == 0 ? 64 : 12);
            PictureReel y = new PictureReel();
            int many = x.write();
            if (many == -1) {
                continue;
            }
            Bytes stream = Bytes.outOf(x);
            T.due("seed " + seed + ": read again", stream.readBy(y), x.about(5));
            T.due("seed " + seed + ": written again", y.write(), many);
            T.due("seed " + seed + ": the same stream", Bytes.outOf(y).same(stream), true);
            T.due("seed " + seed + ": the same picture", samePicture(x, y), true);
        }
    }

    private static boolean samePicture(PictureReel x, PictureReel y) {
        boolean same = true;
        for (int what = 0; what <= 5; what++) {
            same &= x.about(what) == y.about(what);
        }
        for (int f = -1; f < x.about(5); f++) {
            for (int k = 0; k <= 256; k++) {
                same &= x.colourOf(f, k) == y.colourOf(f, k);
            }
            for (int what = 0; what < 10; what++) {
                same &= x.frameOf(f, what) == y.frameOf(f, what);
            }
            for (int i = 0; i < 4096; i++) {
                same &= x.index(f, i) == y.index(f, i);
                same &= x.canvas(f, i % 64, i / 64) == y.canvas(f, i % 64, i / 64);
            }
        }
        return same;
    }
}
