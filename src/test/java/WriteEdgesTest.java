import java.util.Random;

/** The edges of promise 11 and of part III: each byte that is written, and 12,000 of them. */
public final class WriteEdgesTest {
    private static final Checks T = new Checks("WriteEdgesTest");

    public static void main(String[] args) {
        emptyPictures();
        screensAtTheirEnds();
        controlsAtTheirEnds();
        imagesAtTheirEnds();
        leastOfEachTable();
        onePlace();
        rowsToldWithThisVeryCode();
        sizesGrowAsTheReadersDo();
        longestRowsOfAllKinds();
        longestRowsBehindAllIndexes();
        clearWhenNextHasBecome4096();
        noClearAheadOfStop();
        lastRowIsToldWithThisVeryCode();
        clearAtOtherLeasts();
        bitsBehindStopAreZero();
        rowsOf255AndTheRest();
        interlacedLines();
        asManyFramesAsThereMayBe();
        twelveThousandBytes();
        farMoreThanTwelveThousand();
        readerTakesWhatIsWritten();
        T.finish();
    }

    private static void written(String what, PictureReel x, Bytes due) {
        Snapshot picture = Snapshot.picture(x);
        T.due(what + ": write", x.write(), due.size());
        T.due(what + ": about(7)", x.about(7), due.size());
        int others = 0;
        for (int i = 0; i < due.size(); i++) {
            others += x.out(i) == due.at(i) ? 0 : 1;
        }
        T.due(what + ": bytes that are others", others, 0);
        T.due(what + ": behind them", x.out(due.size()), -1);
        T.due(what + ": the picture stays", picture.difference(Snapshot.picture(x)).isEmpty(), true);
    }

    private static Bytes screen(int width, int height, int bits, int background, int... rgbs) {
        return new Bytes().add("GIF89a").two(width, height).add(bits, background, 0).colours(rgbs);
    }

    private static void emptyPictures() {
        PictureReel x = new PictureReel();
        written("a new object", x, screen(1, 1, 0x70, 0).add(0x3B));
        x.begin(64, 64, 0, 255);
        written("no GLOBAL TABLE", x, screen(64, 64, 0x70, 255).add(0x3B));
    }

    /** "that byte of the canvas is 0x70 more than bit 7 and the size tell" */
    private static void screensAtTheirEnds() {
        for (int power = 1; power <= 8; power++) {
            PictureReel x = new PictureReel();
            int[] rgbs = new int[1 << power];
            x.begin(1, 64, 1 << power, 254);
            for (int k = 0; k < rgbs.length; k++) {
                rgbs[k] = 0xFFFFFF - k * 0x010003;
                x.colour(-1, k, rgbs[k]);
            }
            written("size " + rgbs.length, x, screen(1, 64, 0xF0 + power - 1, 254, rgbs).add(0x3B));
        }
        for (int aspect : new int[] {0, 1, 255}) {
            PictureReel x = new PictureReel();
            Bytes s = new Bytes().add("GIF87a").two(64, 1).add(0x0F, 7, aspect, 0x3B);
            T.due("read", s.readBy(x), 0);
            Bytes due = new Bytes().add("GIF89a").two(64, 1).add(0x70, 7, aspect, 0x3B);
            written("ASPECT " + aspect, x, due);
        }
    }

    private static PictureReel onePlaceOf(int colours) {
        PictureReel x = new PictureReel();
        x.begin(64, 64, colours, 0);
        return x;
    }

    /** "0xF9 (bits 7 to 5 are 0; without TRANSPARENT the last byte is 0)" */
    private static void controlsAtTheirEnds() {
        for (int bits = 0; bits < 32; bits++) {
            for (int transparent : new int[] {0, 1, 127, 128, 255}) {
                for (int delay : new int[] {0, 1, 255, 256, 65535}) {
                    PictureReel x = onePlaceOf(2);
                    x.frame(0, 0, 1, 1, 0, false);
                    boolean seen = bits % 2 == 0;
                    x.control(0, 1, 9, 9, bits % 4 < 2);
                    x.control(0, bits / 4, seen ? -1 : transparent, delay, bits / 2 % 2 == 1);
                    Bytes due = screen(64, 64, 0xF0, 0, 0, 0).control(bits, delay, seen ? 0 : transparent);
                    written("control " + bits, x, due.image(0, 0, 1, 1, Bytes.single(0)).add(0x3B));
                }
            }
        }
    }

    /** "then its IMAGE (bits 5 to 3 are 0)" */
    private static void imagesAtTheirEnds() {
        int[][] all = {{0, 0, 1, 1}, {63, 63, 1, 1}, {0, 0, 64, 64}, {63, 0, 1, 64}, {0, 63, 64, 1}};
        for (int[] at : all) {
            for (int power = 0; power <= 8; power++) {
                for (int laced = 0; laced <= 1; laced++) {
                    PictureReel x = onePlaceOf(4);
                    int size = power == 0 ? 0 : 1 << power;
                    x.frame(at[0], at[1], at[2], at[3], size, laced == 1);
                    int[] rgbs = new int[size];
                    for (int k = 0; k < size; k++) {
                        rgbs[k] = 0xFF00FF - k;
                        x.colour(0, k, rgbs[k]);
                    }
                    int bits = (power == 0 ? 0 : 0x80 + power - 1) + laced * 0x40;
                    int least = Math.max(2, power);
                    Bytes due = screen(64, 64, 0xF1, 0, new int[4]).control(0, 0, 0);
                    due.add(0x2C).two(at).add(bits).colours(rgbs).add(least);
                    String text = "\0".repeat(at[2] * at[3]);
                    due.rows(Bytes.codes(PlainReel.codesOf(text, least)), 255).add(0x3B);
                    written("IMAGE " + java.util.Arrays.toString(at) + " of " + size, x, due);
                }
            }
        }
    }

    /** "LEAST: so that 2 to its power is the TABLE's size, 2 at least." */
    private static void leastOfEachTable() {
        for (int global = 1; global <= 8; global++) {
            for (int local = 0; local <= 8; local++) {
                PictureReel x = onePlaceOf(1 << global);
                x.frame(0, 0, 1, 1, local == 0 ? 0 : 1 << local, false);
                x.write();
                int power = local == 0 ? global : local;
                int at = 13 + (3 << global) + 8 + 10 + (local == 0 ? 0 : 3 << local);
                T.due("LEAST of " + local + ", else " + global, x.out(at), Math.max(power, 2));
            }
        }
    }

    private static Bytes oneFrame(int width, int height, int colours, Bytes codes) {
        int power = Integer.numberOfTrailingZeros(colours);
        Bytes s = screen(width, height, 0xF0 + power - 1, 0, new int[colours]).control(0, 0, 0);
        s.add(0x2C).two(0, 0, width, height).add(0, Math.max(power, 2));
        return s.rows(codes, 255).add(0x3B);
    }

    /** An object with one FRAME of these INDEXES. */
    private static PictureReel painted(String text, int colours) {
        PictureReel x = new PictureReel();
        int width = Edges.widthOf(text.length());
        x.begin(width, text.length() / width, colours, 0);
        x.frame(0, 0, width, text.length() / width, 0, false);
        for (int i = 0; i < text.length(); i++) {
            x.paint(0, i, 1, text.charAt(i));
        }
        return x;
    }

    private static void codes(String what, String text, int colours, Bytes due) {
        int width = Edges.widthOf(text.length());
        written(what, painted(text, colours), oneFrame(width, text.length() / width, colours, due));
    }

    private static void codes(String what, String text, int colours) {
        int least = Math.max(2, Integer.numberOfTrailingZeros(colours));
        codes(what, text, colours, Bytes.codes(PlainReel.codesOf(text, least)));
    }

    private static void onePlace() {
        for (int power = 1; power <= 8; power++) {
            int least = Math.max(power, 2);
            for (int index = 0; index < 1 << power; index++) {
                Bytes due = new CodeRow(least).put(index).stop().bytes();
                codes("INDEX " + index, "" + (char) index, 1 << power, due);
            }
        }
    }

    /** "(also that which is told as NEXT by the reader with this very code)": one INDEX alone, any number. */
    private static void rowsToldWithThisVeryCode() {
        codes("two places", "\1\1", 4, new CodeRow(2).put(1, 1).stop().bytes());
        codes("three places", "\1\1\1", 4, new CodeRow(2).put(1, 6).stop().bytes());
        codes("four places", "\1\1\1\1", 4, new CodeRow(2).put(1, 6, 1).stop().bytes());
        codes("five places", "\1\1\1\1\1", 4, new CodeRow(2).put(1, 6, 6).stop().bytes());
        codes("six places", "\1\1\1\1\1\1", 4, new CodeRow(2).put(1, 6, 7).stop().bytes());
        codes("of a row", "\1\2\1\2\1\2\1", 4, new CodeRow(2).put(1, 2, 6, 8).stop().bytes());
        codes("of a row, cut", "\1\2\1\2\1\2", 4, new CodeRow(2).put(1, 2, 6, 6).stop().bytes());
        for (int places = 1; places <= 4096; places++) {
            if (Edges.widthOf(places) == 0) {
                continue;
            }
            int width = Edges.widthOf(places);
            CodeRow due = new CodeRow(2).put(1);
            int left = places - 1;
            for (int length = 2; left > 0; length++) {
                due.put(length <= left ? due.next() : left == 1 ? 1 : 4 + left);
                left -= Math.min(length, left);
            }
            PictureReel x = new PictureReel();
            x.begin(width, places / width, 4, 0);
            x.frame(0, 0, width, places / width, 0, false);
            x.paint(0, 0, places, 1);
            Bytes all = oneFrame(width, places / width, 4, due.stop().bytes());
            T.due(places + " of one INDEX: write", x.write(), all.size());
            T.due(places + " of one INDEX: bytes", Bytes.outOf(x).same(all), true);
        }
    }

    private static String anyText(int seed, int colours, int places) {
        Random random = new Random(seed);
        StringBuilder text = new StringBuilder();
        for (int i = 0; i < places; i++) {
            text.append((char) random.nextInt(colours));
        }
        return text.toString();
    }

    /** How many INDEXES come ahead of each code. */
    private static int[] startsOf(int[] codes, int least) {
        int clear = 1 << least;
        int[] lengths = new int[4097];
        int[] starts = new int[codes.length / 2];
        int next = 0;
        int ahead = 0;
        int at = 0;
        for (int i = 0; i < starts.length; i++) {
            int code = codes[2 * i];
            starts[i] = at;
            if (code == clear || code == clear + 1) {
                next = clear + 2;
                ahead = 0;
                continue;
            }
            if (ahead > 0) {
                lengths[next++] = ahead + 1;
            }
            ahead = code < clear ? 1 : lengths[code];
            at += ahead;
        }
        return starts;
    }

    /** How many places, that make lines, are written with CLEAR, so many codes and STOP; 0 where none are. */
    private static int placesOf(int[] starts, int many) {
        if (many + 1 < starts.length) {
            for (int places = starts[many] + 1; places <= starts[many + 1]; places++) {
                if (Edges.widthOf(places) != 0) {
                    return places;
                }
            }
        }
        return 0;
    }

    /** STOP comes just ahead of, at, and behind each NEXT that makes SIZE grow. */
    private static void sizesGrowAsTheReadersDo() {
        for (int least = 2; least <= 8; least++) {
            boolean[] met = new boolean[4200];
            for (int seed = 0; seed < 40; seed++) {
                String text = anyText(seed, Math.min(1 << least, 2 << seed % 8), 4096);
                sizesGrow(least, text, met);
            }
            for (int size = least + 1; size <= 11; size++) {
                int grows = (1 << size) - (1 << least) - 1;
                for (int many = Math.max(1, grows - 2); many <= grows + 2; many++) {
                    // 4096 places of 16 colours or fewer do not need some 2,000 codes
                    T.due(many + " codes are met, LEAST " + least, met[many], least >= 5 || size < 11);
                }
            }
        }
    }

    private static void sizesGrow(int least, String text, boolean[] met) {
        int[] starts = startsOf(PlainReel.codesOf(text, least), least);
        for (int size = least + 1; size <= 11; size++) {
            int grows = (1 << size) - (1 << least) - 1;
            for (int many = Math.max(1, grows - 2); many <= grows + 2; many++) {
                int places = placesOf(starts, many);
                if (!met[many] && places != 0) {
                    met[many] = true;
                    int[] due = PlainReel.codesOf(text.substring(0, places), least);
                    T.due("codes", due.length / 2, many + 2);
                    codes(many + " codes, LEAST " + least, text.substring(0, places), 1 << least);
                }
            }
        }
    }

    /** "always the longest row that is known and comes next" */
    private static void longestRowsOfAllKinds() {
        for (int power = 1; power <= 8; power++) {
            for (int used = 1; used <= power; used++) {
                for (int places : new int[] {2, 4, 9, 64, 100, 1024, 4096}) {
                    String text = anyText(places + used, 1 << used, places);
                    codes(places + " of " + (1 << used), text, 1 << power);
                }
            }
        }
    }

    /** As many rows begin alike as there may be: INDEX 0, and any of 256 behind it; each is used then. */
    private static void longestRowsBehindAllIndexes() {
        StringBuilder text = new StringBuilder();
        for (int round = 0; round < 2; round++) {
            for (int index = 1; index <= 256; index++) {
                text.append((char) 0).append((char) (index % 256));
            }
        }
        codes("all that is behind 0", text.toString(), 256);
        // the first row of all, behind all others that begin with 0
        String again = text.substring(0, 512) + "\0\1".repeat(32);
        boolean used = false;
        for (int code : PlainReel.codesOf(again, 8)) {
            used |= code == 258;
        }
        T.due("the first row is used", used, true);
        codes("the first behind all", again, 256);
    }

    /** Pairs of which no two are the same: a code for each place. */
    private static String pairs(int colours, int places) {
        return pairs(colours, places, true);
    }

    private static String pairs(int colours, int places, boolean doubles) {
        StringBuilder text = new StringBuilder();
        boolean[] used = new boolean[colours * colours];
        int last = 0;
        text.append((char) 0);
        while (text.length() < places) {
            int next = colours - 1;
            while (next >= 0 && (used[last * colours + next] || !doubles && next == last)) {
                next--;
            }
            if (next < 0) {
                throw new IllegalStateException("no more pairs at " + text.length());
            }
            used[last * colours + next] = true;
            text.append((char) next);
            last = next;
        }
        return text.toString();
    }

    private static CodeRow singles(String text, int least) {
        CodeRow row = new CodeRow(least);
        for (int i = 0; i < text.length(); i++) {
            if (row.next() == 4096) {
                row.clear();
            }
            row.put(text.charAt(i));
        }
        return row;
    }

    /** "when NEXT has become 4096: CLEAR again" */
    private static void clearWhenNextHasBecome4096() {
        for (int places : new int[] {3840, 3843, 3844, 3904, 4096}) {
            String text = pairs(256, places);
            CodeRow due = singles(text, 8).stop();
            T.due("CLEAR has come, " + places, due.next() < 4096, true);
            codes(places + " of 256", text, 256, due.bytes());
        }
        // behind CLEAR rows of two are told anew and used
        String text = pairs(256, 3839);
        CodeRow due = singles(text, 8);
        T.due("NEXT", due.next(), 4096);
        due.clear().put(5, 6, 258, 5).stop();
        codes("rows behind CLEAR", text + "\5\6\5\6\5", 256, due.bytes());
    }

    /** "at the end STOP (no CLEAR ahead of it)" */
    private static void noClearAheadOfStop() {
        // 3838 codes of one place, the last but one of two: 3839 codes, which make NEXT 4096
        String text = pairs(256, 3838);
        String whole = text + text.charAt(0) + text.charAt(1);
        CodeRow due = singles(text, 8).put(258);
        T.due("NEXT", due.next(), 4096);
        T.due("SIZE", due.size(), 12);
        codes("NEXT is 4096 at the end", whole, 256, due.stop().bytes());
    }

    private static void lastRowIsToldWithThisVeryCode() {
        String text = pairs(256, 3838, false);
        char last = text.charAt(3837);
        CodeRow due = singles(text, 8);
        T.due("NEXT", due.next(), 4095);
        codes("4095 at the end", text + last + last, 256, due.put(4095).stop().bytes());
        CodeRow more = singles(text, 8).put(4095).clear().put(9, 8, 7);
        codes("4095, then CLEAR", text + last + last + "\11\10\7", 256, more.stop().bytes());
    }

    /** 128 and 64 colours have pairs enough, too. */
    private static void clearAtOtherLeasts() {
        for (int colours = 64; colours <= 128; colours *= 2) {
            int least = Integer.numberOfTrailingZeros(colours);
            int all = 4096 - colours - 1;
            String text = pairs(colours, 4032);
            T.due("codes ahead of CLEAR", all < 4096, true);
            CodeRow due = singles(text, least);
            codes(colours + " colours", text, colours, due.stop().bytes());
            String longest = pairs(colours, 4096);
            codes(colours + " colours", longest, colours, singles(longest, least).stop().bytes());
        }
    }

    /** "Bits behind STOP are 0." */
    private static void bitsBehindStopAreZero() {
        boolean[] met = new boolean[8];
        for (int places = 1; places <= 64; places++) {
            String text = pairs(16, places);
            CodeRow due = singles(text, 4).stop();
            met[due.free()] = true;
            codes(places + " places", text, 16, due.bytes());
        }
        for (int free = 0; free < 8; free++) {
            T.due(free + " bits behind STOP are met", met[free], true);
        }
    }

    /** "ROWS of 255, the last one of the rest" (by codes of 10 bits there are never 509 bytes, or 764). */
    private static void rowsOf255AndTheRest() {
        boolean[] met = new boolean[6000];
        String text = pairs(256, 4096);
        for (int places = 150; places <= 1000; places++) {
            if (Edges.widthOf(places) != 0) {
                for (int less = 0; less <= 4; less++) {
                    // rows of two: codes that are fewer than the places
                    String twos = "\0\uFFFF".replace('\uFFFF', text.charAt(1)).repeat(less);
                    String whole = text.substring(0, places - 2 * less) + twos;
                    Bytes due = Bytes.codes(PlainReel.codesOf(whole, 8));
                    if (due.size() % 255 <= 2 || due.size() % 255 >= 253) {
                        codes(due.size() + " bytes", whole, 256, due);
                        met[due.size()] = true;
                    }
                }
            }
        }
        for (int bytes : new int[] {254, 255, 256, 257, 508, 510, 511, 763, 765, 766}) {
            T.due(bytes + " bytes of codes are met", met[bytes], true);
        }
    }

    private static void interlacedLines() {
        for (int height = 1; height <= 64; height++) {
            PictureReel x = new PictureReel();
            x.begin(2, 64, 64, 0);
            x.frame(0, 64 - height, 2, height, 0, true);
            for (int i = 0; i < 2 * height; i++) {
                x.paint(0, i, 1, (i / 2 + i % 2 * 7) % 64);
            }
            StringBuilder text = new StringBuilder();
            for (int[] pass : new int[][] {{0, 8}, {4, 8}, {2, 4}, {1, 2}}) {
                for (int line = pass[0]; line < height; line += pass[1]) {
                    text.append((char) line).append((char) ((line + 7) % 64));
                }
            }
            Bytes due = screen(2, 64, 0xF5, 0, new int[64]).control(0, 0, 0);
            due.add(0x2C).two(0, 64 - height, 2, height).add(0x40, 6);
            due.rows(Bytes.codes(PlainReel.codesOf(text.toString(), 6)), 255).add(0x3B);
            written(height + " lines INTERLACED", x, due);
        }
    }

    /** "of each FRAME, in order": 24 of them. */
    private static void asManyFramesAsThereMayBe() {
        PictureReel x = new PictureReel();
        x.begin(64, 64, 2, 0);
        Bytes due = screen(64, 64, 0xF0, 0, 0, 0);
        for (int f = 0; f < 24; f++) {
            x.frame(f, 2 * f, 1, 1, 0, false);
            x.paint(f, 0, 1, f % 2);
            x.control(f, f % 8, -1, f, false);
            due.control(f % 8 << 2, f, 0).image(f, 2 * f, 1, 1, Bytes.single(f % 2));
            written(f + 1 + " FRAMES", x, due.first(due.size()).add(0x3B));
        }
    }

    /** "NONE, and OUT stays, if there would be more than 12,000." */
    private static void twelveThousandBytes() {
        PictureReel x = new PictureReel();
        x.begin(3, 3, 2, 1);
        x.write();
        for (int bytes = 11990; bytes <= 12060; bytes++) {
            Snapshot out = Snapshot.out(x);
            Sizes.draw(x, bytes);
            Snapshot picture = Snapshot.picture(x);
            T.due("write of " + bytes, x.write(), bytes <= 12000 ? bytes : -1);
            T.due("about(7)", x.about(7), Math.min(bytes, 12000));
            T.due("OUT stays", out.difference(Snapshot.out(x)).isEmpty(), bytes > 12000);
            T.due("the picture stays", picture.difference(Snapshot.picture(x)).isEmpty(), true);
            T.due("the last byte", x.out(x.about(7) - 1), 0x3B);
        }
        x.begin(1, 1, 0, 0);
        T.due("a small one behind those", x.write(), 14);
        T.due("its last byte", x.out(13), 0x3B);
        T.due("none behind", x.out(14), -1);
    }

    private static void farMoreThanTwelveThousand() {
        PictureReel x = new PictureReel();
        x.begin(64, 64, 0, 0);
        x.write();
        Snapshot out = Snapshot.out(x);
        String text = pairs(256, 4096);
        for (int f = 0; f < 24; f++) {
            x.frame(0, 0, 64, 64, 256, f % 2 == 1);
            for (int i = 0; i < 4096 && f < 3; i++) {
                x.paint(f, i, 1, text.charAt(i));
            }
            // a FRAME has 768 bytes of colours and, where no pair comes twice, 5,700 of codes
            T.due("write of " + (f + 1), x.write() > 0, f == 0);
            if (f == 0) {
                out = Snapshot.out(x);
            }
            T.due("OUT", out.difference(Snapshot.out(x)).isEmpty(), true);
        }
    }

    private static void readerTakesWhatIsWritten() {
        for (int seed = 0; seed < 40; seed++) {
            PictureReel x = RandomRunsTest.randomPicture(new Random(1000 + seed), seed % 8 == 0 ? 64 : 9);
            Snapshot picture = Snapshot.picture(x);
            if (x.write() > 0) {
                Snapshot out = Snapshot.out(x);
                int frames = x.about(5);
                x.begin(1, 1, 0, 0);
                T.due("take and read", x.read(x.take()), frames);
                T.due("the same picture", picture.difference(Snapshot.picture(x)).isEmpty(), true);
                x.write();
                T.due("the same stream", out.difference(Snapshot.out(x)).isEmpty(), true);
            }
        }
    }
}
