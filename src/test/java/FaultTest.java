/** Promise 5 (and 4): each FAULT with its place, and which one is the first. */
public final class FaultTest {
    private static final Checks T = new Checks("FaultTest");

    public static void main(String[] args) {
        one();
        two();
        three();
        four();
        fourBehindControl();
        five();
        six();
        seven();
        eight();
        nine();
        ten();
        firstComesFirst();
        T.finish();
    }

    private static void fault(String what, Bytes s, int kind, int place) {
        PictureReel x = new PictureReel();
        x.begin(3, 3, 2, 1);
        T.due(what + ": read", s.readBy(x), kind == 0 ? x.about(5) : -1);
        T.due(what + ": fault", x.fault(0), kind);
        T.due(what + ": place", x.fault(1), place);
        T.due(what + ": others", x.fault(2), -1);
        T.due(what + ": others", x.fault(-1), -1);
        if (kind != 0) {
            T.due(what + ": the picture stays", x.about(0) * 100 + x.about(5) * 10 + x.about(3), 301);
        }
    }

    private static Bytes small() {
        return Bytes.screen(2, 2, 0, 1, 2, 3, 4);
    }

    private static void one() {
        for (int i = 0; i < 6; i++) {
            fault("another byte " + i, small().add(0x3B).set(i, 'x'), 1, 0);
            fault("another byte " + i + ", the last", small().set(i, 'x').first(i + 1), 1, 0);
        }
        fault("GIF88a", small().set(4, '8').add(0x3B), 1, 0);
        fault("GIF89b", small().set(5, 'b').add(0x3B), 1, 0);
        fault("GIF99a", small().set(3, '9').add(0x3B), 1, 0);
        fault("gif89a", small().set(0, 'g').add(0x3B), 1, 0);
        fault("GIF79a", small().set(3, '7').add(0x3B), 1, 0);
    }

    private static void two() {
        Bytes rich = ReadTest.rich();
        for (int n = 0; n < rich.size(); n++) {
            fault("the first " + n, rich.first(n), 2, n);
        }
        fault("all", rich, 0, -1);
    }

    private static void three() {
        fault("WIDTH 0", Bytes.screen(0, 1, 0).add(0x3B), 3, 6);
        fault("WIDTH 65", Bytes.screen(65, 1, 0).add(0x3B), 3, 6);
        fault("WIDTH 256", Bytes.screen(256, 1, 0).add(0x3B), 3, 6);
        fault("WIDTH 257", Bytes.screen(257, 1, 0).add(0x3B), 3, 6);
        fault("HEIGHT 0", Bytes.screen(1, 0, 0).add(0x3B), 3, 8);
        fault("HEIGHT 65", Bytes.screen(1, 65, 0).add(0x3B), 3, 8);
        fault("HEIGHT 65535", Bytes.screen(1, 65535, 0).add(0x3B), 3, 8);
        fault("WIDTH and HEIGHT", Bytes.screen(0, 0, 0).add(0x3B), 3, 6);
        fault("WIDTH alone", Bytes.screen(65, 0, 0).first(8), 3, 6);
        fault("half of a wrong WIDTH", Bytes.screen(65, 0, 0).first(7), 2, 7);
        fault("HEIGHT alone", Bytes.screen(64, 0, 0).first(10), 3, 8);
        fault("64 by 64", Bytes.screen(64, 64, 0).add(0x3B), 0, -1);
    }

    private static void four() {
        int at = small().size();
        for (int b = 0; b < 256; b++) {
            if (b != 0x2C && b != 0x21 && b != 0x3B) {
                fault("begins no BLOCK " + b, small().add(b, 0x3B), 4, at);
            }
            if (b != 0xF9 && b != 0xFE && b != 0x01 && b != 0xFF) {
                fault("behind 0x21 " + b, small().add(0x21, b, 0, 0x3B), 4, at + 1);
            }
        }
        fault("in GIF87a", small().set(4, '7').add(0x21, 0xFE, 0, 0x3B), 4, at);
        fault("in GIF87a, alone", small().set(4, '7').add(0x21), 4, at);
        Bytes behindImage = small().image(0, 0, 1, 1, Bytes.single(0));
        int behind = behindImage.size();
        fault("behind an IMAGE", behindImage.add(0, 0x3B), 4, behind);
        fault("0x21 alone", small().add(0x21), 2, at + 1);
    }

    private static Bytes controlled() {
        return small().control(0, 0, 0);
    }

    private static void fourBehindControl() {
        int at = controlled().size();
        fault("0x3B", controlled().add(0x3B), 4, at);
        fault("0x3B and more", controlled().add(0x3B, 0), 4, at);
        fault("another control", controlled().control(0, 0, 0).add(0x3B), 4, at + 1);
        fault("a remark", controlled().add(0x21, 0xFE, 0, 0x3B), 4, at + 1);
        fault("an application", controlled().add(0x21, 0xFF, 11), 4, at + 1);
        fault("0", controlled().add(0), 4, at);
        fault("nothing", controlled(), 2, at);
        Bytes text = controlled().add(0x21, 1, 12).add("twelve bytes").add(0);
        int behind = text.size();
        fault("a text, and the end", text.first(behind).add(0x3B), 0, -1);
        fault("a text, and a control", text.first(behind).control(0, 0, 0), 2, behind + 8);
        fault("a text, and a remark", text.first(behind).add(0x21, 0xFE, 0, 0x3B), 0, -1);
    }

    private static void five() {
        int at = small().size() + 2;
        int[][] labels = {{0xF9, 4}, {0x01, 12}, {0xFF, 11}};
        for (int[] label : labels) {
            for (int length = 0; length < 256; length++) {
                if (length != label[1]) {
                    Bytes s = small().add(0x21, label[0], length).add("fourteen bytes").add(0x3B);
                    fault("length " + length + " of " + label[0], s, 5, at);
                }
            }
            fault("a wrong length alone", small().add(0x21, label[0], 3), 5, at);
        }
        fault("no 0", small().add(0x21, 0xF9, 4, 0, 0, 0, 0, 1), 5, at + 5);
        fault("no 0 but 0x2C", small().add(0x21, 0xF9, 4, 0, 0, 0, 0, 0x2C, 0), 5, at + 5);
    }

    private static void six() {
        int at = small().size();
        int[][] wrong = {{2, 0, 1, 1}, {0, 2, 1, 1}, {0, 0, 3, 1}, {0, 0, 1, 3}, {1, 0, 2, 1},
            {0, 1, 1, 2}, {0, 0, 0, 1}, {0, 0, 1, 0}, {65535, 0, 1, 1}, {0, 65535, 1, 1},
            {65535, 0, 65535, 1}, {256, 0, 1, 1}, {0, 0, 257, 1}, {2, 0, 0, 1}};
        for (int[] w : wrong) {
            String what = java.util.Arrays.toString(w);
            Bytes s = small().image(w[0], w[1], w[2], w[3], Bytes.single(0)).add(0x3B);
            fault(what, s, 6, at);
            fault(what + " to HEIGHT", s.first(at + 9), 6, at);
            fault(what + " short of HEIGHT", s.first(at + 8), 2, at + 8);
        }
        Bytes behind = controlled();
        int second = behind.size();
        fault("at 0x2C, not at its control", behind.image(2, 0, 1, 1, Bytes.single(0)), 6, second);
    }

    private static void seven() {
        Bytes s = Bytes.screen(2, 2, 0);
        int at = s.size();
        s.image(0, 0, 1, 1, Bytes.single(0)).add(0x3B);
        fault("no TABLE", s, 7, at);
        fault("no TABLE, and the end", s.first(at + 10), 7, at);
        fault("short of that byte", s.first(at + 9), 2, at + 9);
        fault("no TABLE in spite of other bits", s.set(at + 9, 0x7F), 7, at);
        Bytes outside = Bytes.screen(2, 2, 0).image(2, 0, 1, 1, Bytes.single(0));
        fault("outside comes first", outside, 6, at);
    }

    private static void eight() {
        int at = small().size() + 10;
        for (int least = 0; least < 256; least++) {
            if (least < 2 || least > 8) {
                Bytes s = small().image(0, 0, 1, 1, Bytes.single(0)).set(at, least);
                fault("LEAST " + least, s, 8, at);
                fault("LEAST " + least + ", the last", s.first(at + 1), 8, at);
            }
        }
    }

    private static void codes(String what, int width, boolean good, int... codes) {
        Bytes s = small().image(0, 0, width, 1, Bytes.codes(codes)).add(0x3B);
        fault(what, s, good ? 0 : 9, good ? -1 : small().size() + 10);
    }

    private static void nine() {
        codes("good", 1, true, 4, 3, 0, 3, 5, 3);
        codes("no bytes", 1, false);
        codes("a first one that isn't CLEAR", 1, false, 0, 3, 5, 3);
        codes("STOP first", 1, false, 5, 3);
        codes("a first one that is told nowhere", 1, false, 6, 3, 0, 3, 5, 3);
        codes("none that is told: NEXT with none AHEAD", 2, false, 4, 3, 6, 3, 5, 3);
        codes("none that is told: above NEXT", 2, false, 4, 3, 0, 3, 7, 3, 5, 3);
        codes("NEXT behind CLEAR", 2, false, 4, 3, 0, 3, 4, 3, 6, 3, 5, 3);
        codes("forgotten by CLEAR", 2, false, 4, 3, 0, 3, 0, 3, 4, 3, 0, 3, 7, 3, 5, 3);
        codes("no STOP", 1, false, 4, 3, 0, 3);
        codes("no STOP: its bits are not all there", 2, false, 4, 3, 0, 3, 1, 2);
        codes("a byte behind STOP", 1, false, 4, 3, 0, 3, 5, 3, 0, 8);
        codes("STOP ends with its byte", 2, false, 4, 3, 0, 3, 1, 3, 4, 3, 4, 3, 4, 3, 4, 3, 5, 3, 0, 1);
        codes("STOP ends with the last byte", 2, true, 4, 3, 0, 3, 1, 3, 4, 3, 4, 3, 4, 3, 4, 3, 5, 3);
        codes("bits behind STOP", 1, true, 4, 3, 0, 3, 5, 3, 127, 7);
        codes("fewer than its places", 2, false, 4, 3, 0, 3, 5, 3);
        codes("none of its places", 1, false, 4, 3, 5, 3);
        codes("more than its places", 1, false, 4, 3, 0, 3, 0, 3, 5, 3);
        codes("a row over its end", 2, false, 4, 3, 0, 3, 6, 3, 5, 3);
        codes("a row at its end", 2, true, 4, 3, 0, 3, 0, 3, 5, 3);
        stopWithoutItsLastBit();
        nineByTables();
        overTheGreatestImage();
    }

    /** CLEAR eight times, four places, STOP at 4 bits: 41 bits, of which 40 are there (or all). */
    private static void stopWithoutItsLastBit() {
        int[] codes = {4, 3, 4, 3, 4, 3, 4, 3, 4, 3, 4, 3, 4, 3, 4, 3, 0, 3, 1, 3, 0, 3, 2, 4, 5, 4};
        Bytes all = Bytes.codes(codes);
        T.due("bytes", all.size(), 6);
        fault("all of STOP", small().image(0, 0, 2, 2, all).add(0x3B), 0, -1);
        Bytes less = small().image(0, 0, 2, 2, all.first(5)).add(0x3B);
        fault("STOP without its last bit", less, 9, small().size() + 10);
    }

    /** Rows of 1, 2, 3 .. places: the 91st goes over the 4096 places that there can be. */
    private static void overTheGreatestImage() {
        int[] codes = new int[2 * 93];
        codes[0] = 4;
        codes[1] = 3;
        int next = 6;
        int size = 3;
        for (int i = 1; i <= 91; i++) {
            codes[2 * i] = i == 1 ? 1 : next;
            codes[2 * i + 1] = size;
            next += i == 1 ? 0 : 1;
            size += next == 1 << size ? 1 : 0;
        }
        codes[184] = 5;
        codes[185] = size;
        Bytes s = Bytes.screen(64, 64, 0, 1, 2);
        int at = s.size() + 10;
        fault("4186 of 4096 places", s.image(0, 0, 64, 64, Bytes.codes(codes)).add(0x3B), 9, at);
    }

    private static void nineByTables() {
        Bytes two = Bytes.screen(2, 2, 0, 1, 2);
        int at = two.size() + 10;
        for (int index = 0; index < 4; index++) {
            Bytes s = two.first(two.size()).image(0, 0, 1, 1, Bytes.single(index)).add(0x3B);
            fault("INDEX " + index + " of 2", s, index < 2 ? 0 : 9, index < 2 ? -1 : at);
        }
        Bytes others = two.first(two.size());
        others.image(0, 0, 1, 1, Bytes.codes(4, 3, 2, 3, 0, 3, 5, 3)).add(0x3B);
        fault("INDEX 2 of 2 beside all that must be", others, 9, at);
        Bytes local = small().add(0x2C).two(0, 0, 1, 1).add(0x80).colours(1, 2);
        int least = local.size();
        local.add(2).rows(Bytes.single(2), 255).add(0x3B);
        fault("INDEX 2 of a LOCAL TABLE of 2", local, 9, least);
        Bytes open = small().image(0, 0, 1, 1, Bytes.codes(0, 3));
        fault("ROWS that end too early come first", open.first(open.size() - 1), 2, open.size() - 1);
        fault("behind its ROWS", open, 9, small().size() + 10);
    }

    private static void ten() {
        int at = small().size() + 1;
        fault("one more", small().add(0x3B, 0), 10, at);
        fault("0x3B twice", small().add(0x3B, 0x3B), 10, at);
        fault("many more", small().add(0x3B, 1, 2, 3, 4), 10, at);
    }

    private static void firstComesFirst() {
        fault("GIF and the end", new Bytes().add("GIF"), 2, 3);
        Bytes both = Bytes.screen(0, 0, 0).set(0, 'g').add(7);
        fault("1 ahead of 3", both, 1, 0);
        Bytes image = small().image(2, 2, 1, 1, Bytes.codes(0, 3)).add(7);
        fault("6 ahead of 9 and 4", image, 6, small().size());
        Bytes wrongCodes = small().image(0, 0, 1, 1, Bytes.codes(0, 3)).add(7);
        fault("9 ahead of 4", wrongCodes, 9, small().size() + 10);
    }
}
