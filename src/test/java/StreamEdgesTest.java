/** The edges of part II's streams and BLOCKS: what is taken, and each FAULT with its place. */
public final class StreamEdgesTest {
    private static final Checks T = new Checks("StreamEdgesTest");
    private static final Reads READS = new Reads(T);
    private static final int SCREEN = 13 + 6;

    public static void main(String[] args) {
        startIsOneOfTwo();
        startMayBeCut();
        canvasSidesOfStreams();
        screenBitsThatCount();
        backgroundAndAspectAreBytes();
        endIsTheLastByte();
        beginsABlock();
        olderStreamsHaveImagesAlone();
        labelsBehindTwentyOne();
        imageBitsThatCount();
        leastIsTwoToEight();
        imagesLieWithinTheCanvas();
        imagesAreTwentyFour();
        imagesHaveATable();
        controlBitsThatCount();
        controlNumbersOfTwo();
        controlIsForTheNextAlone();
        nothingElseBehindAControl();
        controlLengthAndItsZero();
        textsHaveTwelve();
        applicationsHaveEleven();
        rowsOfAnyNumberAndLength();
        pictureStaysAtFaults();
        firstFaultIsTold();
        T.finish();
    }

    /** 2 by 2 with two colours. */
    private static Bytes small() {
        return Bytes.screen(2, 2, 0, 0x111111, 0x222222);
    }

    private static Bytes image(Bytes s) {
        return s.image(0, 0, 1, 1, Bytes.single(1));
    }

    /** "1 one of its first six bytes is another (at 0)" */
    private static void startIsOneOfTwo() {
        for (int i = 0; i < 6; i++) {
            for (int b = 0; b < 256; b++) {
                Bytes s = small().add(0x3B).set(i, b);
                boolean told = b == "GIF89a".charAt(i) || i == 4 && b == '7';
                if (told) {
                    READS.taken("byte " + i + " is " + b, s, 0);
                } else {
                    READS.refused("byte " + i + " is " + b, s, 1, 0);
                }
            }
        }
    }

    /** "2 it ends too early (at its length)", but what is another is come to ahead of that. */
    private static void startMayBeCut() {
        for (int n = 0; n < 13; n++) {
            READS.refused("the first " + n, small().first(n), 2, n);
            READS.refused("the first " + n + " of GIF87a", small().set(4, '7').first(n), 2, n);
        }
        for (int n = 13; n < SCREEN; n++) {
            READS.refused("in the TABLE, " + n, small().first(n), 2, n);
        }
        READS.refused("without 0x3B", small(), 2, SCREEN);
        for (int i = 0; i < 6; i++) {
            for (int n = i + 1; n <= 6; n++) {
                READS.refused("byte " + i + " another, of " + n, small().set(i, 0).first(n), 1, 0);
            }
            READS.refused("cut ahead of the other byte " + i, small().set(i, 0).first(i), 2, i);
        }
    }

    /** "3 a WIDTH or HEIGHT of the canvas that may not be (at it)" */
    private static void canvasSidesOfStreams() {
        int[] sides = {0, 1, 2, 63, 64, 65, 127, 128, 255, 256, 257, 320, 0x4000, 0x4040, 32768, 65535};
        for (int side : sides) {
            Bytes wide = Bytes.screen(side, 3, 0).add(0x3B);
            Bytes high = Bytes.screen(3, side, 0).add(0x3B);
            if (side >= 1 && side <= 64) {
                T.due("WIDTH", READS.taken("WIDTH " + side, wide, 0).about(0), side);
                T.due("HEIGHT", READS.taken("HEIGHT " + side, high, 0).about(1), side);
            } else {
                READS.refused("WIDTH " + side, wide, 3, 6);
                READS.refused("WIDTH " + side + " and the end", wide.first(8), 3, 6);
                READS.refused("half of WIDTH " + side, wide.first(7), 2, 7);
                READS.refused("HEIGHT " + side, high, 3, 8);
                READS.refused("HEIGHT " + side + " and the end", high.first(10), 3, 8);
                READS.refused("half of HEIGHT " + side, high.first(9), 2, 9);
                READS.refused("both " + side, Bytes.screen(side, side, 0).add(0x3B), 3, 6);
            }
        }
        PictureReel both = READS.taken("64 by 64", Bytes.screen(64, 64, 0).add(0x3B), 0);
        T.due("64 by 64", both.about(0) * 100 + both.about(1), 6464);
    }

    /** "bit 7: there is a GLOBAL TABLE, of 2 << (bits 2 to 0) colours; others don't count" */
    private static void screenBitsThatCount() {
        for (int bits = 0; bits < 256; bits++) {
            int size = bits >= 128 ? 2 << bits % 8 : 0;
            Bytes s = new Bytes().add("GIF89a").two(1, 1).add(bits, 0, 0);
            for (int k = 0; k < size; k++) {
                s.colours(0xFF0000 + k);
            }
            PictureReel x = READS.taken("bits " + bits, s.add(0x3B), 0);
            T.due("its size", x.about(2), size);
            T.due("its first colour", x.colourOf(-1, 0), size == 0 ? -1 : 0xFF0000);
            T.due("its last colour", x.colourOf(-1, size - 1), size == 0 ? -1 : 0xFF0000 + size - 1);
            T.due("none behind it", x.colourOf(-1, size), -1);
            READS.refused("bits " + bits + ", cut", s.first(s.size() - 1), 2, s.size() - 1);
        }
    }

    /** "BACKGROUND; ASPECT": a byte each, any. */
    private static void backgroundAndAspectAreBytes() {
        for (int b : new int[] {0, 1, 127, 128, 254, 255}) {
            Bytes s = new Bytes().add("GIF89a").two(1, 1).add(0, b, 255 - b, 0x3B);
            PictureReel x = READS.taken("BACKGROUND " + b, s, 0);
            T.due("BACKGROUND", x.about(3), b);
            T.due("ASPECT", x.about(4), 255 - b);
        }
    }

    /** "then 0x3B, which is the last byte"; "10 bytes behind 0x3B (at the first)" */
    private static void endIsTheLastByte() {
        for (int images = 0; images <= 2; images++) {
            Bytes s = small();
            for (int i = 0; i < images; i++) {
                image(s);
            }
            int end = s.size();
            READS.refused("no 0x3B", s.first(end), 2, end);
            READS.taken("0x3B", s.first(end).add(0x3B), images);
            for (int b : new int[] {0, 0x21, 0x2C, 0x3B, 0x47, 255}) {
                READS.refused("one behind", s.first(end).add(0x3B, b), 10, end + 1);
                READS.refused("two behind", s.first(end).add(0x3B, b, b), 10, end + 1);
            }
        }
        PictureReel x = new PictureReel();
        Sizes.draw(x, 12000);
        x.write();
        x.take();
        T.due("11,999 of 12,000 bytes", x.read(11999), -1);
        T.due("end too early", x.fault(0) * 100000 + x.fault(1), 211999);
        Sizes.draw(x, 11999);
        x.write();
        x.take();
        T.due("11,999 bytes", x.read(11999) > 0, true);
        x.take();
        T.due("11,998 of 11,999 bytes", x.read(11998), -1);
        T.due("end too early", x.fault(0) * 100000 + x.fault(1), 211998);
    }

    /** "4 what begins no BLOCK here" */
    private static void beginsABlock() {
        Bytes behind = image(small());
        for (int b = 0; b < 256; b++) {
            if (b != 0x21 && b != 0x2C && b != 0x3B) {
                READS.refused("byte " + b, small().add(b), 4, SCREEN);
                READS.refused("byte " + b + " and more", small().add(b, 0, 0x3B), 4, SCREEN);
                READS.refused("byte " + b + " behind an IMAGE", behind.first(behind.size()).add(b, 0x3B),
                        4, behind.size());
            }
        }
    }

    /** "0x21 (not in GIF87a)": "0x21 in GIF87a .. (at it)" */
    private static void olderStreamsHaveImagesAlone() {
        Bytes old = small().set(4, '7');
        READS.taken("no BLOCKS", old.first(SCREEN).add(0x3B), 0);
        PictureReel x = READS.taken("IMAGES", image(image(old.first(SCREEN))).add(0x3B), 2);
        int[] due = {0, 0, 1, 1, 0, 0, 0, -1, 0, 0};
        for (int what = 0; what < due.length; what++) {
            T.due("without a control, " + what, x.frameOf(1, what), due[what]);
        }
        for (int label = 0; label < 256; label++) {
            READS.refused("0x21, " + label, old.first(SCREEN).add(0x21, label, 0, 0x3B), 4, SCREEN);
        }
        READS.refused("0x21, the last", old.first(SCREEN).add(0x21), 4, SCREEN);
        READS.refused("a control", old.first(SCREEN).control(0, 0, 0), 4, SCREEN);
        Bytes one = image(old.first(SCREEN));
        READS.refused("0x21 behind an IMAGE", one.first(one.size()).add(0x21, 0xFE, 0), 4, one.size());
    }

    /** "or what stands behind 0x21 (at it)" */
    private static void labelsBehindTwentyOne() {
        for (int label = 0; label < 256; label++) {
            Bytes s = small().add(0x21, label);
            boolean is = label == 0xF9 || label == 0xFE || label == 0x01 || label == 0xFF;
            READS.refused("label " + label, s, is ? 2 : 4, is ? SCREEN + 2 : SCREEN + 1);
            if (!is) {
                READS.refused("label " + label + " and more", s.add(0, 0x3B), 4, SCREEN + 1);
            }
        }
        READS.refused("0x21, the last", small().add(0x21), 2, SCREEN + 1);
    }

    /** "bit 7: a LOCAL TABLE, of 2 << (bits 2 to 0) colours; bit 6: INTERLACED" */
    private static void imageBitsThatCount() {
        for (int bits = 0; bits < 256; bits++) {
            int size = bits >= 128 ? 2 << bits % 8 : 0;
            Bytes s = small().add(0x2C).two(1, 0, 1, 2).add(bits);
            for (int k = 0; k < size; k++) {
                s.colours(0xFE0000 + k);
            }
            s.add(2).rows(Bytes.codes(4, 3, 1, 3, 0, 3, 5, 3), 255);
            PictureReel x = READS.taken("bits " + bits, s.add(0x3B), 1);
            int[] due = {1, 0, 1, 2, size, bits / 64 % 2, 0, -1, 0, 0};
            for (int what = 0; what < due.length; what++) {
                T.due("bits " + bits + ", frameOf(0, " + what + ")", x.frameOf(0, what), due[what]);
            }
            T.due("its last colour", x.colourOf(0, size - 1), size == 0 ? -1 : 0xFE0000 + size - 1);
            T.due("none behind it", x.colourOf(0, size), -1);
            T.due("the GLOBAL one", x.colourOf(-1, 1), 0x222222);
            T.due("INDEXES", x.index(0, 0) * 10 + x.index(0, 1), 10);
        }
    }

    /** "LEAST, a byte 2 .. 8"; "8 LEAST is none (at it)" */
    private static void leastIsTwoToEight() {
        for (int least = 0; least < 256; least++) {
            for (int local = 0; local <= 1; local++) {
                Bytes s = small().add(0x2C).two(0, 0, 1, 1).add(local * 0x81);
                s.colours(new int[local * 4]);
                int at = s.size();
                s.add(least);
                if (least >= 2 && least <= 8) {
                    int clear = 1 << least;
                    int bits = least + 1;
                    s.rows(Bytes.codes(clear, bits, 1, bits, clear + 1, bits), 255).add(0x3B);
                    T.due("its INDEX", READS.taken("LEAST " + least, s, 1).index(0, 0), 1);
                } else {
                    READS.refused("LEAST " + least + ", the last", s, 8, at);
                    READS.refused("LEAST " + least, s.rows(Bytes.single(0), 255).add(0x3B), 8, at);
                }
                READS.refused("ahead of LEAST", s.first(at), 2, at);
            }
        }
    }

    private static void imageAt(int side, int from, int many) {
        boolean may = many >= 1 && from + many <= side;
        for (int turn = 0; turn <= 1; turn++) {
            Bytes s = turn == 0 ? Bytes.screen(side, 3, 0, 1, 2) : Bytes.screen(3, side, 0, 1, 2);
            s.add(0x2C).two(turn == 0 ? from : 1, turn == 0 ? 1 : from);
            s.two(turn == 0 ? many : 2, turn == 0 ? 2 : many);
            String what = from + " and " + many + " of " + side;
            READS.refused(what + ": short of HEIGHT", s.first(SCREEN + 8), 2, SCREEN + 8);
            READS.refused(what, s.first(SCREEN + 9), may ? 2 : 6, may ? SCREEN + 9 : SCREEN);
            if (!may) {
                READS.refused(what + ": and more", s.add(0x80, 0, 0, 0, 0, 0, 0, 9), 6, SCREEN);
                continue;
            }
            s.add(0, 2).rows(Bytes.codes(PlainReel.codesOf("\1".repeat(2 * many), 2)), 255).add(0x3B);
            PictureReel x = READS.taken(what, s, 1);
            T.due(what + ": from", x.frameOf(0, turn), from);
            T.due(what + ": many", x.frameOf(0, turn + 2), many);
            T.due(what + ": its last place", x.index(0, 2 * many - 1), 1);
        }
    }

    /** "6 an IMAGE that .. isn't within the canvas or has no places (at its 0x2C, when its HEIGHT is read)" */
    private static void imagesLieWithinTheCanvas() {
        for (int side : new int[] {1, 2, 63, 64}) {
            int[] numbers = {0, 1, 2, side - 1, side, side + 1, 255, 256, 257, 0x4000, 65280, 65534, 65535};
            for (int from : numbers) {
                for (int many : numbers) {
                    imageAt(side, from, many);
                }
            }
        }
        Bytes behind = small().control(0, 0, 0);
        int at = behind.size();
        READS.refused("at 0x2C, not at its control", behind.image(2, 0, 1, 1, Bytes.single(0)), 6, at);
    }

    /** "an IMAGE that is the 25th": controls, texts and remarks are none. */
    private static void imagesAreTwentyFour() {
        for (int way = 0; way < 3; way++) {
            Bytes s = small();
            for (int f = 0; f < 24; f++) {
                if (way >= 1) {
                    s.add(0x21, 0xFE, 0).add(0x21, 1, 12).add("twelve bytes").add(0);
                }
                if (way == 2) {
                    s.control(f % 8 << 2, f, 0);
                }
                s.image(f % 2, f / 2 % 2, 1, 1, Bytes.single(f % 2));
            }
            PictureReel x = READS.taken("24 IMAGES", s.first(s.size()).add(0x3B), 24);
            for (int f = 0; f < 24; f++) {
                T.due("LEFT of " + f, x.frameOf(f, 0), f % 2);
                T.due("DELAY of " + f, x.frameOf(f, 8), way == 2 ? f : 0);
                T.due("INDEX of " + f, x.index(f, 0), f % 2);
            }
            READS.taken("24 IMAGES and a remark", s.first(s.size()).add(0x21, 0xFE, 0, 0x3B), 24);
            if (way == 2) {
                s.control(0, 0, 0);
            }
            int at = s.size();
            Bytes more = s.first(at).image(0, 0, 1, 1, Bytes.single(0));
            READS.refused("25 IMAGES", more.first(more.size()).add(0x3B), 6, at);
            READS.refused("25, HEIGHT is read", more.first(at + 9), 6, at);
            READS.refused("25, HEIGHT isn't read", more.first(at + 8), 2, at + 8);
            READS.refused("25, outside", s.first(at).image(9, 9, 1, 1, Bytes.single(0)), 6, at);
        }
    }

    /** "7 it has no TABLE (at its 0x2C, when the byte behind HEIGHT is read)" */
    private static void imagesHaveATable() {
        for (int bits = 0; bits < 256; bits++) {
            Bytes s = Bytes.screen(2, 2, 0);
            int at = s.size();
            s.add(0x2C).two(0, 0, 1, 1).add(bits);
            READS.refused("bits " + bits, s.first(at + 10), bits < 128 ? 7 : 2, bits < 128 ? at : at + 10);
            READS.refused("ahead of the bits", s.first(at + 9), 2, at + 9);
            Bytes rest = s.add(2).rows(Bytes.single(0), 255).add(0x3B);
            if (bits < 128) {
                READS.refused("bits " + bits + " and more", rest, 7, at);
            }
        }
        Bytes own = Bytes.screen(2, 2, 0).add(0x2C).two(0, 0, 1, 1).add(0x80).colours(1, 2).add(2);
        own.rows(Bytes.single(1), 255);
        int second = own.size();
        READS.taken("a LOCAL one", own.first(second).add(0x3B), 1);
        READS.refused("another's LOCAL one does not count", image(own).add(0x3B), 7, second);
        Bytes both = Bytes.screen(2, 2, 0);
        READS.refused("6 ahead of 7", both.image(2, 0, 1, 1, Bytes.single(0)), 6, 13);
    }

    /** "a byte (bits 4 to 2 DISPOSAL, bit 1 INPUT, bit 0: the last of these bytes is TRANSPARENT)" */
    private static void controlBitsThatCount() {
        for (int bits = 0; bits < 256; bits++) {
            for (int last : new int[] {0, 1, 127, 128, 255}) {
                Bytes s = image(small().control(bits, 0, last)).add(0x3B);
                PictureReel x = READS.taken("control " + bits, s, 1);
                T.due("DISPOSAL of " + bits, x.frameOf(0, 6), bits / 4 % 8);
                T.due("INPUT of " + bits, x.frameOf(0, 9), bits / 2 % 2);
                T.due("TRANSPARENT of " + bits, x.frameOf(0, 7), bits % 2 == 1 ? last : -1);
                T.due("DELAY of " + bits, x.frameOf(0, 8), 0);
            }
        }
    }

    /** "numbers of two have the lower one first": "DELAY (2)" from 0 to 65535. */
    private static void controlNumbersOfTwo() {
        for (int delay : new int[] {0, 1, 127, 128, 255, 256, 257, 0x0102, 0x8000, 0xFF00, 65534, 65535}) {
            Bytes s = image(small().control(0, delay, 0)).add(0x3B);
            T.due("DELAY", READS.taken("DELAY " + delay, s, 1).frameOf(0, 8), delay);
        }
    }

    /** "the next BLOCK, an IMAGE or a text, has these (else DISPOSAL 0, DELAY 0, no INPUT, TRANSPARENT NONE)" */
    private static void controlIsForTheNextAlone() {
        Bytes s = image(image(small()).control(0xFF, 65535, 255));
        image(s).control(0xFF, 65535, 255).add(0x21, 1, 12).add("twelve bytes").add(0);
        PictureReel x = READS.taken("controls", image(s).add(0x3B), 4);
        for (int f = 0; f < 4; f++) {
            int[] due = f == 1 ? new int[] {7, 255, 65535, 1} : new int[] {0, -1, 0, 0};
            for (int what = 6; what <= 9; what++) {
                T.due("frameOf(" + f + ", " + what + ")", x.frameOf(f, what), due[what - 6]);
            }
        }
        Bytes cut = image(small()).control(0xFF, 65535, 255);
        PictureReel y = new PictureReel();
        T.due("ends behind a control", cut.readBy(y), -1);
        T.due("fault", y.fault(0) * 1000 + y.fault(1), 2000 + cut.size());
        T.due("the next stream", image(small()).add(0x3B).readBy(y), 1);
        T.due("has nothing of it", y.frameOf(0, 6) + y.frameOf(0, 8) + y.frameOf(0, 7), -1);
    }

    /** "nothing else may come there": not even 0x3B. */
    private static void nothingElseBehindAControl() {
        Bytes controlled = small().control(0, 0, 0);
        int at = controlled.size();
        for (int b = 0; b < 256; b++) {
            Bytes s = controlled.first(at).add(b);
            boolean may = b == 0x21 || b == 0x2C;
            READS.refused("byte " + b + " behind a control", s, may ? 2 : 4, may ? at + 1 : at);
            Bytes labelled = controlled.first(at).add(0x21, b);
            READS.refused("0x21 and " + b + " behind it", labelled, b == 1 ? 2 : 4, b == 1 ? at + 2 : at + 1);
            if (b != 1) {
                READS.refused("0x21 and " + b + " and more", labelled.add(0, 0x3B), 4, at + 1);
            }
        }
        READS.refused("nothing", controlled, 2, at);
        Bytes text = controlled.first(at).add(0x21, 1, 12).add("twelve bytes").add(0);
        READS.taken("a text, then the end", text.first(text.size()).add(0x3B), 0);
        READS.taken("a text, then a remark", text.first(text.size()).add(0x21, 0xFE, 0, 0x3B), 0);
        READS.taken("a text, then a control", image(text.first(text.size()).control(4, 0, 0)).add(0x3B), 1);
    }

    /** "5 a length that isn't 4 .., or no 0 behind 0xF9's (at it)" */
    private static void controlLengthAndItsZero() {
        int at = SCREEN + 2;
        for (int b = 0; b < 256; b++) {
            Bytes length = small().add(0x21, 0xF9, b);
            READS.refused("length " + b, length, b == 4 ? 2 : 5, b == 4 ? at + 1 : at);
            Bytes zero = small().add(0x21, 0xF9, 4, 0, 0, 0, 0, b);
            READS.refused("behind its four: " + b, zero, b == 0 ? 2 : 5, b == 0 ? at + 6 : at + 5);
            if (b != 4) {
                READS.refused("length " + b + " and more", image(length.add(0, 0, 0, 0, 0)), 5, at);
            }
        }
        for (int n = at + 1; n < at + 6; n++) {
            READS.refused("a control of " + n, small().control(0, 0, 0).first(n), 2, n);
        }
    }

    private static void lengthOf(int label, int length) {
        int at = SCREEN + 2;
        for (int b = 0; b < 256; b++) {
            Bytes s = small().add(0x21, label, b);
            READS.refused(label + ": length " + b, s, b == length ? 2 : 5, b == length ? at + 1 : at);
            for (int i = 0; i < b; i++) {
                s.add(0x3B);
            }
            if (b == length) {
                READS.refused(label + ": no ROWS", s, 2, at + 1 + b);
                READS.taken(label + ": no rows", s.first(s.size()).add(0, 0x3B), 0);
                READS.taken(label + ": a row", s.first(s.size()).add(1, 0x2C, 0, 0x3B), 0);
            } else {
                READS.refused(label + ": length " + b + " and so many", s.add(0, 0x3B), 5, at);
            }
        }
    }

    /** "0x01, 12, 12 bytes, ROWS: a text, which shows nothing." */
    private static void textsHaveTwelve() {
        lengthOf(0x01, 12);
    }

    /** "0xFF, 11, 11 bytes, ROWS." */
    private static void applicationsHaveEleven() {
        lengthOf(0xFF, 11);
    }

    /** "ROWS: any number of: a length 1 .. 255, so many bytes; then 0." */
    private static void rowsOfAnyNumberAndLength() {
        String[] heads = {"\u00FE", "\u0001\u000Ctwelve bytes", "\u00FF\u000Beleven byte"};
        for (String head : heads) {
            for (int length : new int[] {0, 1, 2, 11, 12, 127, 128, 254, 255}) {
                // 39 rows of 255 are as many as 512 calls can feed
                for (int many : new int[] {0, 1, 2, 39}) {
                    Bytes content = new Bytes();
                    for (int i = 0; i < length * many; i++) {
                        content.add(i % 3 == 0 ? 0x3B : 0);
                    }
                    Bytes s = small().add(0x21).add(head).rows(content, Math.max(length, 1));
                    int end = s.size();
                    READS.taken(many + " rows of " + length, s.first(end).add(0x3B), 0);
                    READS.refused(many + " rows of " + length + ", cut", s.first(end - 1), 2, end - 1);
                    READS.refused(many + " rows, no 0x3B", s.first(end), 2, end);
                }
            }
        }
    }

    /** Another rich stream, of other sizes, with more FRAMES than ReadTest's. */
    private static Bytes other() {
        Bytes s = Bytes.screen(9, 3, 3, 0xA0A0A0, 0xB0B0B0);
        for (int f = 0; f < 5; f++) {
            s.control(f << 2 | 3, 60000 + f, f % 2).image(f, f % 3, 1, 1, Bytes.single(f % 2));
        }
        s.add(0x2C).two(0, 0, 9, 3).add(0xC7).colours(new int[256]).add(8);
        return s.rows(new CodeRow(8).singles(27).stop().bytes(), 10).add(0x3B);
    }

    /** "it becomes the picture"; "NONE: it has a FAULT (the picture stays)": wherever it is cut. */
    private static void pictureStaysAtFaults() {
        Bytes[] streams = {ReadTest.rich(), other(), image(small()).add(0x3B)};
        Snapshot[] pictures = new Snapshot[streams.length];
        for (int i = 0; i < streams.length; i++) {
            PictureReel fresh = new PictureReel();
            T.due("read", streams[i].readBy(fresh) > 0, true);
            pictures[i] = Snapshot.picture(fresh);
        }
        PictureReel x = new PictureReel();
        for (int round = 0; round < 6; round++) {
            int now = round % 3;
            T.due("read again", streams[now].readBy(x) > 0, true);
            String other = pictures[now].difference(Snapshot.picture(x));
            T.due("it becomes the picture, " + other, other.isEmpty(), true);
            Bytes cut = streams[(round + 1 + round / 3) % 3];
            for (int n = 0; n < cut.size(); n++) {
                T.due("the first " + n, cut.first(n).readBy(x), -1);
                T.due("the first " + n + ", fault", x.fault(0) * 100000 + x.fault(1), 200000 + n);
                String then = pictures[now].difference(Snapshot.picture(x));
                T.due("the picture stays, " + then, then.isEmpty(), true);
            }
        }
    }

    /** "FAULTS, the first one as bytes are come to": two in one stream, the earlier one is told. */
    private static void firstFaultIsTold() {
        READS.refused("1 ahead of 3", Bytes.screen(0, 0, 0).set(5, 0), 1, 0);
        READS.refused("3 ahead of 3", Bytes.screen(65, 65, 0).add(7), 3, 6);
        READS.refused("3 ahead of 4", Bytes.screen(1, 65, 0).add(7), 3, 8);
        READS.refused("4 ahead of 5", small().add(0x21, 0xF8, 3), 4, SCREEN + 1);
        READS.refused("5 ahead of 5", small().add(0x21, 0xF9, 5, 0, 0, 0, 0, 1), 5, SCREEN + 2);
        READS.refused("5 ahead of 6", small().add(0x21, 0xF9, 4, 0, 0, 0, 0, 1).image(2, 2, 2, 2,
                new Bytes()), 5, SCREEN + 7);
        READS.refused("6 ahead of 7", Bytes.screen(1, 1, 0).image(1, 0, 1, 1, new Bytes()), 6, 13);
        READS.refused("7 ahead of 8", Bytes.screen(1, 1, 0).add(0x2C).two(0, 0, 1, 1).add(0, 9), 7, 13);
        READS.refused("8 ahead of 9", small().add(0x2C).two(0, 0, 1, 1).add(0, 9, 0), 8, SCREEN + 10);
        READS.refused("9 ahead of 10", small().image(0, 0, 1, 1, new Bytes()).add(0x3B, 0), 9, SCREEN + 10);
        READS.refused("9 ahead of 2", small().image(0, 0, 1, 1, new Bytes()), 9, SCREEN + 10);
        Bytes twice = small().image(0, 0, 1, 1, Bytes.single(2)).image(2, 0, 1, 1, Bytes.single(0));
        READS.refused("9 ahead of 6", twice, 9, SCREEN + 10);
        Bytes later = image(small());
        int at = later.size();
        READS.refused("4 ahead of 10", later.first(at).add(0, 0x3B, 0), 4, at);
        READS.refused("10 ahead of 4", later.first(at).add(0x3B, 0, 0x3B), 10, at + 1);
    }
}
