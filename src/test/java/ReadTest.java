import java.util.Random;

/** Promise 4: read, with all of STREAMS, BLOCKS and CODES. */
public final class ReadTest {
    private static final Checks T = new Checks("ReadTest");

    public static void main(String[] args) {
        refusesLengths();
        readsScreens();
        readsBlocks();
        readsOlderStreams();
        controlsHoldForOne();
        readsLocalTables();
        readsRowsOfAnyLength();
        readsNextAndClears();
        readsInterlaced();
        growsToTwelveBits();
        readsLongCodes();
        keepsRowsWhenAllAreTold();
        readsTwentyFourImages();
        staysAtFaults();
        T.finish();
    }

    private static void refusesLengths() {
        PictureReel x = new PictureReel();
        T.due("read(1) of nothing", x.read(1), -2);
        T.due("read(-1)", x.read(-1), -2);
        T.due("read(least)", x.read(Integer.MIN_VALUE), -2);
        T.due("no read yet", x.fault(0), -1);
        x.feed(0, 0, 0, 0, 0);
        T.due("read(21)", x.read(21), -2);
        T.due("read(most)", x.read(Integer.MAX_VALUE), -2);
        T.due("the tape stays", x.about(6), 20);
        T.due("read(20)", x.read(20), -1);
        T.due("the tape is empty", x.about(6), 0);
        T.due("fault", x.fault(0), 1);
        T.due("read(1)", x.read(1), -2);
        T.due("fault stays", x.fault(0), 1);
        T.due("read(0)", x.read(0), -1);
        T.due("fault of none", x.fault(0), 2);
        T.due("place of none", x.fault(1), 0);
    }

    private static void readsScreens() {
        PictureReel x = new PictureReel();
        for (int power = 0; power < 8; power++) {
            int size = 2 << power;
            int[] rgbs = new int[size];
            for (int k = 0; k < size; k++) {
                rgbs[k] = k * 0x010203 % 0x1000000;
            }
            // bits 6 to 3 don't count
            Bytes s = new Bytes().add("GIF89a").two(64, 1).add(0xF8 | power, 255, 200);
            s.colours(rgbs).add(0x3B);
            T.due("read of " + size, s.readBy(x), 0);
            T.due("size", x.about(2), size);
            T.due("last colour", x.colourOf(-1, size - 1), rgbs[size - 1]);
            T.due("no more", x.colourOf(-1, size), -1);
        }
        T.due("WIDTH", x.about(0), 64);
        T.due("HEIGHT", x.about(1), 1);
        T.due("BACKGROUND", x.about(3), 255);
        T.due("ASPECT", x.about(4), 200);
        Bytes none = new Bytes().add("GIF87a").two(1, 64).add(0x7F, 3, 4).add(0x3B);
        T.due("without a table", none.readBy(x), 0);
        T.due("size 0", x.about(2), 0);
        T.due("BACKGROUND", x.about(3), 3);
        T.due("HEIGHT", x.about(1), 64);
    }

    /** A stream with every kind of BLOCK. */
    static Bytes rich() {
        Bytes s = Bytes.screen(5, 4, 1, 0x010203, 0x040506, 0x070809, 0xFFFEFD);
        s.add(0x21, 0xFF, 11).add("NETSCAPE2.0").add(3, 1, 0, 0, 0);
        s.add(0x21, 0xFE).rows(new Bytes().add("a remark; with ,!").add(0), 5);
        s.control(0xE0 | 2 << 2 | 2 | 1, 0x0102, 3);
        s.image(1, 2, 2, 1, Bytes.codes(4, 3, 1, 3, 3, 3, 5, 3));
        s.control(3 << 2, 7, 2);
        s.add(0x21, 0x01, 12).add("twelve bytes").rows(new Bytes().add("text"), 255);
        s.add(0x21, 0x01, 12).add("twelve bytes").add(0);
        s.add(0x2C).two(0, 0, 5, 4).add(0xF8).colours(0xAAAAAA, 0xBBBBBB).add(2);
        int[] codes = new int[2 * 22];
        for (int i = 0; i < 22; i++) {
            codes[2 * i] = i == 0 ? 4 : i == 21 ? 5 : i / 5 % 2;
            codes[2 * i + 1] = i < 4 ? 3 : i < 12 ? 4 : 5;
        }
        s.rows(Bytes.codes(codes), 4);
        s.add(0x21, 0xFE, 0);
        s.control(4 << 2, 0xFFFF, 3);
        s.image(4, 3, 1, 1, Bytes.single(2));
        return s.add(0x3B);
    }

    private static void readsBlocks() {
        PictureReel x = new PictureReel();
        T.due("read", rich().readBy(x), 3);
        T.due("fault", x.fault(0), 0);
        T.due("place", x.fault(1), -1);
        T.due("other", x.fault(2), -1);
        int[][] due = {{1, 2, 2, 1, 0, 0, 2, 3, 0x0102, 1}, {0, 0, 5, 4, 2, 1, 0, -1, 0, 0},
            {4, 3, 1, 1, 0, 0, 4, -1, 0xFFFF, 0}};
        for (int f = 0; f < due.length; f++) {
            for (int what = 0; what < due[f].length; what++) {
                T.due("frameOf(" + f + ", " + what + ")", x.frameOf(f, what), due[f][what]);
            }
        }
        T.due("index(0, 0)", x.index(0, 0), 1);
        T.due("index(0, 1)", x.index(0, 1), 3);
        T.due("index(2, 0)", x.index(2, 0), 2);
        T.due("colourOf(1, 1)", x.colourOf(1, 1), 0xBBBBBB);
    }

    private static void readsOlderStreams() {
        PictureReel x = new PictureReel();
        Bytes s = Bytes.screen(1, 1, 0, 5, 6).set(4, '7');
        s.image(0, 0, 1, 1, Bytes.single(1)).add(0x3B);
        T.due("GIF87a", s.readBy(x), 1);
        T.due("its INDEX", x.index(0, 0), 1);
        T.due("DISPOSAL", x.frameOf(0, 6), 0);
        T.due("TRANSPARENT", x.frameOf(0, 7), -1);
        T.due("write gives GIF89a", x.write(), 19 + 8 + 15 + 1);
        T.due("its 9", x.out(4), '9');
    }

    private static void controlsHoldForOne() {
        PictureReel x = new PictureReel();
        Bytes s = Bytes.screen(1, 1, 0, 5, 6).control(2 << 2 | 1, 9, 1);
        s.image(0, 0, 1, 1, Bytes.single(1)).image(0, 0, 1, 1, Bytes.single(0)).add(0x3B);
        T.due("read", s.readBy(x), 2);
        T.due("the first has it", x.frameOf(0, 6) * 100 + x.frameOf(0, 8), 209);
        T.due("the second has none", x.frameOf(1, 6) * 100 + x.frameOf(1, 8), 0);
        T.due("TRANSPARENT NONE", x.frameOf(1, 7), -1);
    }

    private static void readsLocalTables() {
        PictureReel x = new PictureReel();
        Bytes s = Bytes.screen(2, 1, 0);
        s.add(0x2C).two(0, 0, 2, 1).add(0x82);
        s.colours(1, 2, 3, 4, 5, 6, 7, 0xF1F2F3).add(3);
        s.rows(Bytes.codes(8, 4, 7, 4, 0, 4, 9, 4), 255).add(0x3B);
        T.due("read", s.readBy(x), 1);
        T.due("size", x.frameOf(0, 4), 8);
        T.due("colour 7", x.colourOf(0, 7), 0xF1F2F3);
        T.due("canvas", x.canvas(0, 0, 0), 0xF1F2F3);
        T.due("canvas", x.canvas(0, 1, 0), 1);
        // LEAST may tell less or more than the TABLE's size
        Bytes more = Bytes.screen(2, 1, 0, 9, 8);
        more.add(0x2C).two(0, 0, 2, 1).add(0, 8);
        more.rows(Bytes.codes(256, 9, 1, 9, 0, 9, 257, 9), 255).add(0x3B);
        T.due("LEAST 8 with 2 colours", more.readBy(x), 1);
        T.due("index", x.index(0, 0) * 10 + x.index(0, 1), 10);
    }

    private static void readsRowsOfAnyLength() {
        for (int most = 1; most <= 7; most++) {
            PictureReel x = new PictureReel();
            Bytes s = Bytes.screen(4, 2, 0, 1, 2, 3, 4);
            s.add(0x2C).two(0, 0, 4, 2).add(0, 2);
            Bytes codes = Bytes.codes(4, 3, 3, 3, 2, 3, 1, 3, 0, 4, 3, 4, 2, 4, 1, 4, 0, 4, 5, 4);
            s.rows(codes, most).add(0x3B);
            T.due("rows of " + most, s.readBy(x), 1);
            for (int i = 0; i < 8; i++) {
                T.due("index " + i, x.index(0, i), 3 - i % 4);
            }
        }
    }

    private static void readsNextAndClears() {
        PictureReel x = new PictureReel();
        Bytes s = Bytes.screen(7, 1, 0, 1, 2, 3, 4);
        // CLEAR twice; 1, NEXT (11), NEXT (111); at size 4 CLEAR, then 2; CLEAR ahead of STOP; bits behind
        Bytes codes = Bytes.codes(4, 3, 4, 3, 1, 3, 6, 3, 7, 3, 4, 4, 2, 3, 4, 3, 5, 3, 7, 3);
        T.due("bytes", codes.size(), 4);
        s.image(0, 0, 7, 1, codes).add(0x3B);
        T.due("read", s.readBy(x), 1);
        int[] due = {1, 1, 1, 1, 1, 1, 2};
        for (int i = 0; i < 7; i++) {
            T.due("index " + i, x.index(0, i), due[i]);
        }
    }

    private static void readsInterlaced() {
        int[] order = {0, 8, 16, 4, 12, 2, 6, 10, 14, 1, 3, 5, 7, 9, 11, 13, 15, 17};
        for (int height = 1; height <= 18; height++) {
            PictureReel x = new PictureReel();
            int[] rgbs = new int[32];
            Bytes s = Bytes.screen(1, height, 0, rgbs);
            StringBuilder lines = new StringBuilder();
            for (int line : order) {
                if (line < height) {
                    lines.append((char) line);
                }
            }
            s.add(0x2C).two(0, 0, 1, height).add(0x40, 5);
            s.rows(Bytes.codes(PlainReel.codesOf(lines.toString(), 5)), 255).add(0x3B);
            T.due("read of height " + height, s.readBy(x), 1);
            for (int y = 0; y < height; y++) {
                T.due("height " + height + " line " + y, x.index(0, y), y);
            }
        }
    }

    /** Codes of single INDEXES, never CLEARED, at sizes that grow as they must. */
    private static Bytes singles(int many, int least) {
        int clear = 1 << least;
        int[] codes = new int[2 * (many + 2)];
        int size = least + 1;
        int next = clear + 2;
        codes[0] = clear;
        codes[1] = size;
        for (int i = 0; i < many; i++) {
            codes[2 * i + 2] = (i * i + i / 7) % clear;
            codes[2 * i + 3] = size;
            if (i > 0 && next < 4096) {
                next++;
                size = next == 1 << size && size < 12 ? size + 1 : size;
            }
        }
        codes[2 * many + 2] = clear + 1;
        codes[2 * many + 3] = size;
        return Bytes.codes(codes);
    }

    private static void growsToTwelveBits() {
        for (int least = 2; least <= 8; least++) {
            for (int many : new int[] {1, 2, 3, 5, 12, 60, 256, 1023, 3840, 4096}) {
                int width = many % 64 == 0 ? 64 : many % 33 == 0 ? 33 : many <= 64 ? many : 0;
                if (width == 0) {
                    continue;
                }
                PictureReel x = new PictureReel();
                Bytes s = Bytes.screen(64, 64, 0, new int[1 << least]);
                s.add(0x2C).two(0, 0, width, many / width).add(0, least);
                s.rows(singles(many, least), 255).add(0x3B);
                T.due(many + " at LEAST " + least, s.readBy(x), 1);
                boolean same = true;
                for (int i = 0; i < many; i++) {
                    same &= x.index(0, i) == (i * i + i / 7) % (1 << least);
                }
                T.due("all INDEXES", same, true);
            }
        }
    }

    /** 4096 places of few colours in no order, so that most codes are those of rows. */
    private static void readsLongCodes() {
        for (int least = 2; least <= 8; least++) {
            for (int used = 2; used <= 1 << least; used *= 2) {
                Random random = new Random(least * 1000 + used);
                StringBuilder text = new StringBuilder();
                for (int i = 0; i < 4096; i++) {
                    text.append((char) random.nextInt(used));
                }
                PictureReel x = new PictureReel();
                Bytes s = Bytes.screen(64, 64, 0, new int[1 << least]);
                s.add(0x2C).two(0, 0, 64, 64).add(0, least);
                s.rows(Bytes.codes(PlainReel.codesOf(text.toString(), least)), 255).add(0x3B);
                T.due(used + " colours at LEAST " + least, s.readBy(x), 1);
                boolean same = true;
                for (int i = 0; i < 4096; i++) {
                    same &= x.index(0, i) == text.charAt(i);
                }
                T.due("all INDEXES", same, true);
                x.begin(1, 1, 0, 0);
                Bytes written = s.first(13 + (3 << least)).control(0, 0, 0);
                T.due("read again", s.readBy(x), 1);
                T.due("written", x.write(), s.size() + written.size() - 13 - (3 << least));
            }
        }
    }

    /** When NEXT is 4096, codes of rows still come, and nothing more is told. */
    private static void keepsRowsWhenAllAreTold() {
        PictureReel x = new PictureReel();
        int singles = 3839;
        int rows = 32;
        // 3839 + 32 * 2 + 1 = 3904 = 64 * 61
        int[] codes = new int[2 * (singles + rows + 3)];
        int size = 9;
        int next = 258;
        int at = 0;
        codes[at++] = 256;
        codes[at++] = 9;
        for (int i = 0; i < singles; i++) {
            codes[at++] = i * 7 % 256;
            codes[at++] = size;
            if (i > 0) {
                next++;
                size = next == 1 << size && size < 12 ? size + 1 : size;
            }
        }
        for (int i = 0; i < rows; i++) {
            codes[at++] = i % 2 == 0 ? 4095 : 258 + i;
            codes[at++] = 12;
        }
        codes[at++] = 77;
        codes[at++] = 12;
        codes[at++] = 257;
        codes[at++] = 12;
        Bytes s = Bytes.screen(64, 64, 0, new int[256]);
        s.add(0x2C).two(0, 0, 64, 61).add(0, 8).rows(Bytes.codes(codes), 255).add(0x3B);
        T.due("rows behind the last that is told", s.readBy(x), 1);
        for (int i = 0; i < rows; i++) {
            int first = i % 2 == 0 ? 3837 : i;
            T.due("its first", x.index(0, 3839 + 2 * i), first * 7 % 256);
            T.due("its second", x.index(0, 3840 + 2 * i), (first + 1) * 7 % 256);
        }
        T.due("the last", x.index(0, 3903), 77);
    }

    private static void readsTwentyFourImages() {
        PictureReel x = new PictureReel();
        Bytes s = Bytes.screen(4, 4, 0, 1, 2, 3, 4);
        for (int f = 0; f < 24; f++) {
            s.image(f % 4, f / 8, 1, 1, Bytes.single(f % 3));
        }
        Bytes tooMany = s.first(s.size()).image(0, 0, 1, 1, Bytes.single(0)).add(0x3B);
        int place = s.size();
        s.add(0x3B);
        T.due("24", s.readBy(x), 24);
        T.due("FRAMES", x.about(5), 24);
        T.due("the last one's INDEX", x.index(23, 0), 2);
        T.due("25", tooMany.readBy(x), -1);
        T.due("fault", x.fault(0), 6);
        T.due("place", x.fault(1), place);
    }

    private static void staysAtFaults() {
        PictureReel x = new PictureReel();
        rich().readBy(x);
        Bytes wrong = rich().add(0);
        T.due("refused", wrong.readBy(x), -1);
        T.due("FRAMES stay", x.about(5), 3);
        T.due("INDEX stays", x.index(0, 1), 3);
        T.due("colour stays", x.colourOf(-1, 3), 0xFFFEFD);
        T.due("DELAY stays", x.frameOf(2, 8), 0xFFFF);
        T.due("tape is empty", x.about(6), 0);
        T.due("good again", rich().readBy(x), 3);
        T.due("no fault any more", x.fault(0), 0);
        T.due("no place any more", x.fault(1), -1);
    }
}
