/** The edges of part II's CODES, and of FAULT 9. */
public final class CodeEdgesTest {
    private static final Checks T = new Checks("CodeEdgesTest");
    private static final Reads READS = new Reads(T);

    public static void main(String[] args) {
        firstCodeIsClear();
        noCodesAtAll();
        codesBelowClear();
        nextNeedsOneAhead();
        codesAboveNext();
        rowsAreToldFromTheSecondCodeOn();
        nextIsTheRowAheadAndItsFirst();
        sizesGrowWithNext();
        stopHasAllBitsOfSize();
        lastRowIsToldAt4095();
        nothingIsToldAt4096();
        clearAtAnyTime();
        clearForgetsRows();
        stopIsInTheLastByte();
        stopMustCome();
        placesAreAll();
        placesOfTheGreatestImage();
        indexesAreBelowTheTablesSize();
        indexesInsideRows();
        indexesBesideAllPlaces();
        rowsAreOneBehindTheOther();
        interlacedLines();
        codesAreLookedAtBehindTheRows();
        T.finish();
    }

    private static Bytes stream(int width, int height, int least, int colours, Bytes codes) {
        Bytes s = Bytes.screen(width, height, 0, new int[colours]);
        return s.add(0x2C).two(0, 0, width, height).add(0, least).rows(codes, 255).add(0x3B);
    }

    private static int leastPlace(int colours) {
        return 13 + 3 * colours + 10;
    }

    /** Codes of an IMAGE of one line, LEAST 2, four colours: taken with these INDEXES. */
    private static void good(String what, CodeRow row, int... indexes) {
        PictureReel x = READS.taken(what, stream(indexes.length, 1, 2, 4, row.bytes()), 1);
        for (int i = 0; i < indexes.length; i++) {
            T.due(what + ": INDEX " + i, x.index(0, i), indexes[i]);
        }
    }

    private static void bad(String what, Bytes codes, int width) {
        READS.refused(what, stream(width, 1, 2, 4, codes), 9, leastPlace(4));
    }

    private static void bad(String what, CodeRow row, int width) {
        bad(what, row.bytes(), width);
    }

    private static CodeRow row() {
        return new CodeRow(2);
    }

    /** "CLEAR is the first code"; "a first one that isn't CLEAR" */
    private static void firstCodeIsClear() {
        for (int least = 2; least <= 8; least++) {
            int clear = 1 << least;
            int bits = least + 1;
            for (int first = 0; first < 2 * clear; first++) {
                Bytes codes = Bytes.codes(first, bits, 0, bits, clear + 1, bits);
                Bytes s = stream(1, 1, least, 2, codes);
                if (first == clear) {
                    READS.taken("CLEAR first", s, 1);
                } else {
                    READS.refused(first + " first, LEAST " + least, s, 9, leastPlace(2));
                }
            }
            Bytes later = Bytes.codes(0, bits, clear, bits, 0, bits, clear + 1, bits);
            READS.refused("CLEAR second", stream(1, 1, least, 2, later), 9, leastPlace(2));
        }
    }

    private static void noCodesAtAll() {
        bad("no bytes", new Bytes(), 1);
        bad("a byte of CLEAR alone", Bytes.codes(4, 3), 1);
        bad("CLEAR and STOP", row().stop(), 1);
        for (int b = 0; b < 256; b++) {
            bad("one byte " + b, new Bytes().add(b), 1);
        }
        READS.refused("not a whole code", stream(1, 1, 8, 2, new Bytes().add(0)), 9, leastPlace(2));
    }

    /** "A code below CLEAR is the row of that INDEX alone" */
    private static void codesBelowClear() {
        for (int least = 2; least <= 8; least++) {
            for (int index = 0; index < 1 << least; index++) {
                Bytes s = stream(1, 1, least, 1 << least, new CodeRow(least).put(index).stop().bytes());
                PictureReel x = READS.taken("INDEX " + index, s, 1);
                T.due("INDEX " + index + ", LEAST " + least, x.index(0, 0), index);
            }
        }
    }

    /** "NEXT itself .. (if there is one AHEAD ..)" */
    private static void nextNeedsOneAhead() {
        for (int least = 2; least <= 8; least++) {
            int next = (1 << least) + 2;
            Bytes without = new CodeRow(least).put(next, 0).stop().bytes();
            READS.refused("NEXT first", stream(1, 1, least, 2, without), 9, leastPlace(2));
            READS.refused("NEXT first", stream(2, 1, least, 2, without), 9, leastPlace(2));
            Bytes again = new CodeRow(least).put(0).clear().put(next).stop().bytes();
            READS.refused("NEXT behind CLEAR", stream(2, 1, least, 2, again), 9, leastPlace(2));
            READS.refused("NEXT behind CLEAR", stream(3, 1, least, 2, again), 9, leastPlace(2));
            Bytes with = new CodeRow(least).put(1, next).stop().bytes();
            PictureReel x = READS.taken("NEXT second", stream(3, 1, least, 2, with), 1);
            T.due("its row", x.index(0, 0) * 100 + x.index(0, 1) * 10 + x.index(0, 2), 111);
        }
    }

    /** "none that is told": the first above NEXT, and the greatest. */
    private static void codesAboveNext() {
        bad("NEXT + 1 behind one", row().put(0, 7).stop(), 2);
        bad("NEXT + 1 behind one", row().put(0, 7).stop(), 3);
        for (int many = 2; many <= 20; many++) {
            CodeRow known = row().singles(many);
            int next = known.next();
            int most = (1 << known.size()) - 1;
            for (int code : new int[] {next + 1, next + 2, most}) {
                if (code > next && code <= most) {
                    for (int length = 1; length <= 3; length++) {
                        bad("code " + code + " when NEXT is " + next,
                                row().singles(many).put(code).stop(), many + length);
                    }
                }
            }
        }
    }

    /** "one above STOP and below NEXT the row that was told so" */
    private static void rowsAreToldFromTheSecondCodeOn() {
        good("the first row", row().put(1, 2, 6).stop(), 1, 2, 1, 2);
        good("the second row", row().put(1, 2, 3, 7).stop(), 1, 2, 3, 2, 3);
        good("a row's row", row().put(1, 2, 6, 8).stop(), 1, 2, 1, 2, 1, 2, 1);
        good("the row behind a row", row().put(1, 2, 6, 7).stop(), 1, 2, 1, 2, 2, 1);
        bad("STOP's number is no row", row().put(1, 2).stop().put(0), 3);
    }

    /** "NEXT itself the row of the code AHEAD, and that row's first INDEX" */
    private static void nextIsTheRowAheadAndItsFirst() {
        good("of one INDEX", row().put(3, 6).stop(), 3, 3, 3);
        good("of a row", row().put(1, 2, 6, 8).stop(), 1, 2, 1, 2, 1, 2, 1);
        good("again and again", row().put(3, 6, 7, 8).stop(), 3, 3, 3, 3, 3, 3, 3, 3, 3, 3);
        good("of a row that is no NEXT", row().put(0, 1, 2, 6, 9).stop(), 0, 1, 2, 0, 1, 0, 1, 0);
    }

    /**
     * An IMAGE of so many codes, some of them rows of two, so that its places make lines. Behind
     * STOP come bits of 1, so that it is another code where a reader takes a bit more or less.
     */
    private static void counted(String what, int least, int many, int stopLacks, boolean may) {
        int twos = 0;
        while (Edges.widthOf(many + twos) == 0) {
            twos++;
        }
        int row = (1 << least) + 2;
        CodeRow codes = new CodeRow(least).singles(many - twos);
        for (int i = 0; i < twos; i++) {
            codes.put(row);
        }
        int width = Edges.widthOf(many + twos);
        codes.raw((1 << least) + 1, codes.size() - stopLacks).fill();
        Bytes s = stream(width, (many + twos) / width, least, 4, codes.bytes());
        if (!may) {
            READS.refused(what, s, 9, leastPlace(4));
            return;
        }
        PictureReel x = READS.taken(what, s, 1);
        int others = 0;
        for (int i = 0; i < many - twos; i++) {
            others += x.index(0, i) == i % 3 ? 0 : 1;
        }
        for (int i = many - twos; i < many + twos; i++) {
            others += x.index(0, i) == (i - many + twos) % 2 ? 0 : 1;
        }
        T.due(what + ": INDEXES that are others", others, 0);
    }

    /** "if that is 2 to the power of SIZE, and SIZE below 12, SIZE becomes 1 more" */
    private static void sizesGrowWithNext() {
        for (int least = 2; least <= 8; least++) {
            for (int size = least + 1; size <= 12; size++) {
                int grows = (1 << size) - (1 << least) - 1;
                for (int many = Math.max(grows - 2, 1); many <= Math.min(grows + 2, 4090); many++) {
                    counted(many + " codes, LEAST " + least, least, many, 0, true);
                }
            }
        }
    }

    /** STOP with a bit less than SIZE is none: where SIZE has grown just ahead of it, too. */
    private static void stopHasAllBitsOfSize() {
        for (int least = 2; least <= 8; least++) {
            for (int size = least + 1; size <= 12; size++) {
                int grows = (1 << size) - (1 << least) - 1;
                counted("STOP of the former SIZE, LEAST " + least, least, grows, 1, false);
                counted("STOP a bit short, LEAST " + least, least, grows + 1, 1, false);
            }
        }
    }

    /** "NEXT itself .. (if .. NEXT is below 4096)": 4095 is the last that is told so. */
    private static void lastRowIsToldAt4095() {
        for (int least = 4; least <= 8; least++) {
            int singles = 4095 - (1 << least) - 2 + 1;
            for (int more = 0; more <= 1; more++) {
                CodeRow codes = new CodeRow(least).singles(singles);
                T.due("NEXT", codes.next(), 4095);
                int places = singles;
                codes.put(4095);
                places += 2;
                T.due("NEXT then", codes.next(), 4096);
                for (int i = 0; i < more; i++) {
                    codes.put(4095, 4094);
                    places += 4;
                }
                for (; Edges.widthOf(places) == 0; places++) {
                    codes.put(1);
                }
                int width = Edges.widthOf(places);
                Bytes s = stream(width, places / width, least, 4, codes.stop().bytes());
                PictureReel x = READS.taken("4095 as NEXT, LEAST " + least, s, 1);
                int last = (singles - 1) % 3;
                T.due("its first", x.index(0, singles), last);
                T.due("its second", x.index(0, singles + 1), last);
                if (more == 1) {
                    T.due("4095 again", x.index(0, singles + 2) * 10 + x.index(0, singles + 3), last * 11);
                    int ahead = (singles - 2) % 3;
                    T.due("4094", x.index(0, singles + 4) * 10 + x.index(0, singles + 5), ahead * 10 + last);
                }
            }
        }
    }

    /** When NEXT is 4096 codes come as before, nothing more is told, and SIZE stays 12. */
    private static void nothingIsToldAt4096() {
        for (int least = 4; least <= 8; least++) {
            int singles = 4096 - (1 << least) - 2 + 1;
            CodeRow codes = new CodeRow(least).singles(singles);
            T.due("NEXT", codes.next(), 4096);
            T.due("SIZE", codes.size(), 12);
            int first = (1 << least) + 2;
            codes.put(3, 3, first, 4095, 3);
            T.due("NEXT still", codes.next(), 4096);
            int places = singles + 7;
            for (; Edges.widthOf(places) == 0; places++) {
                codes.put(1);
            }
            int width = Edges.widthOf(places);
            Bytes s = stream(width, places / width, least, 4, codes.stop().bytes());
            PictureReel x = READS.taken("behind 4096, LEAST " + least, s, 1);
            int[] due = {3, 3, 0, 1, (singles - 2) % 3, (singles - 1) % 3, 3};
            for (int i = 0; i < due.length; i++) {
                T.due("INDEX " + i + " behind", x.index(0, singles + i), due[i]);
            }
        }
    }

    /** "CLEAR .. makes SIZE LEAST + 1 and NEXT CLEAR + 2, and there is no code AHEAD." */
    private static void clearAtAnyTime() {
        good("twice", row().clear().put(1).stop(), 1);
        good("nine times", row().clear().clear().clear().clear().clear().clear().clear().clear().put(1).stop(), 1);
        good("ahead of STOP", row().put(1).clear().stop(), 1);
        good("behind each", row().put(1).clear().put(2).clear().put(3).stop(), 1, 2, 3);
        good("when SIZE is 4", row().put(1, 2, 3).clear().put(0, 1, 6).stop(), 1, 2, 3, 0, 1, 0, 1);
        for (int least = 2; least <= 8; least++) {
            for (int size = least + 1; size <= 12; size++) {
                int grows = (1 << size) - (1 << least) - 1;
                for (int many = Math.max(grows - 1, 1); many <= Math.min(grows + 1, 3900); many++) {
                    clearBehind(least, many);
                }
            }
        }
    }

    private static void clearBehind(int least, int many) {
        CodeRow codes = new CodeRow(least).singles(many).clear().put(1, 2, (1 << least) + 2);
        int places = many + 4;
        for (; Edges.widthOf(places) == 0; places++) {
            codes.put(3);
        }
        int width = Edges.widthOf(places);
        Bytes s = stream(width, places / width, least, 4, codes.stop().bytes());
        PictureReel x = READS.taken("CLEAR behind " + many + ", LEAST " + least, s, 1);
        int[] due = {(many - 1) % 3, 1, 2, 1, 2};
        for (int i = 0; i < due.length; i++) {
            T.due("INDEX " + i, x.index(0, many - 1 + i), due[i]);
        }
    }

    private static void clearForgetsRows() {
        bad("the first row", row().put(0, 1).clear().put(0, 7).stop(), 4);
        bad("the first row, at once", row().put(0, 1).clear().put(6).stop(), 4);
        good("is told anew", row().put(0, 1, 6).clear().put(2, 3, 6).stop(), 0, 1, 0, 1, 2, 3, 2, 3);
    }

    /** "STOP ends it, in the last byte"; "bytes behind that in which STOP ends" */
    private static void stopIsInTheLastByte() {
        for (int clears = 0; clears <= 16; clears++) {
            CodeRow codes = row();
            for (int i = 0; i < clears; i++) {
                codes.clear();
            }
            codes.put(2).stop();
            int free = codes.free();
            Bytes bytes = codes.bytes();
            Bytes whole = stream(1, 1, 2, 4, bytes);
            READS.taken(free + " bits behind STOP", whole, 1);
            Bytes ones = codes.fill().bytes();
            READS.taken(free + " bits of 1 behind STOP", stream(1, 1, 2, 4, ones), 1);
            for (int b : new int[] {0, 255, 5, 0x3B}) {
                bad("a byte behind STOP", bytes.first(bytes.size()).add(b), 1);
                bad("two behind STOP", bytes.first(bytes.size()).add(b, b), 1);
            }
            Bytes apart = Bytes.screen(1, 1, 0, 1, 2, 3, 4).add(0x2C).two(0, 0, 1, 1).add(0, 2);
            apart.rows(bytes, 255).set(apart.size() - 1, 1).add(0, 0, 0x3B);
            READS.refused("a byte behind STOP in a row of its own", apart, 9, leastPlace(4));
            bad("the last byte of STOP is not there", bytes.first(bytes.size() - 1), 1);
        }
    }

    /** "no STOP": not even when all places are there, or all its bits but the last. */
    private static void stopMustCome() {
        bad("all places and no more", row().put(1), 1);
        bad("all places and whole bytes", row().clear().clear().clear().clear().clear().put(1, 2), 2);
        // 9 CLEARS and a code are 30 bits: two of STOP's three are in the fourth byte
        CodeRow cut = row();
        for (int i = 0; i < 8; i++) {
            cut.clear();
        }
        cut.put(1);
        T.due("bits ahead of STOP", cut.bits(), 30);
        Bytes all = cut.stop().bytes();
        T.due("bytes with STOP", all.size(), 5);
        READS.taken("all of STOP", stream(1, 1, 2, 4, all), 1);
        bad("two bits of STOP", all.first(4), 1);
        CodeRow one = row().clear().put(1, 2, 3);
        T.due("SIZE", one.size(), 4);
        bad("STOP at the former SIZE", one.raw(5, 3).fill(), 3);
    }

    /** "other than all its places" */
    private static void placesAreAll() {
        for (int places = 1; places <= 9; places++) {
            for (int told = 0; told <= 12; told++) {
                CodeRow codes = row().singles(told).stop();
                String what = told + " of " + places;
                if (told == places) {
                    READS.taken(what, stream(places, 1, 2, 4, codes.bytes()), 1);
                } else {
                    bad(what, codes, places);
                }
            }
        }
        for (int places = 1; places <= 8; places++) {
            CodeRow codes = row().put(3, 6, 7).stop();
            if (places == 6) {
                READS.taken("rows of 1, 2 and 3", stream(places, 1, 2, 4, codes.bytes()), 1);
            } else {
                bad("rows of 1, 2 and 3 for " + places, codes, places);
            }
        }
        bad("more, then STOP where all are", row().put(1, 6).clear().stop(), 2);
    }

    /** Rows of 1, 2, 3 .. INDEXES: 90 of them are 4095. */
    private static CodeRow growing(int rows) {
        CodeRow codes = row().put(1);
        for (int i = 1; i < rows; i++) {
            codes.put(codes.next());
        }
        return codes;
    }

    private static void placesOfTheGreatestImage() {
        Bytes fewer = growing(90).stop().bytes();
        READS.refused("4095 of 4096", stream(64, 64, 2, 4, fewer), 9, leastPlace(4));
        Bytes all = growing(90).put(0).stop().bytes();
        PictureReel x = READS.taken("4096 of 4096", stream(64, 64, 2, 4, all), 1);
        T.due("the last", x.index(0, 4095), 0);
        T.due("the last but one", x.index(0, 4094), 1);
        Bytes one = growing(90).put(0, 0).stop().bytes();
        READS.refused("4097 of 4096", stream(64, 64, 2, 4, one), 9, leastPlace(4));
        Bytes many = growing(91).stop().bytes();
        READS.refused("4186 of 4096", stream(64, 64, 2, 4, many), 9, leastPlace(4));
        Bytes far = growing(400).stop().bytes();
        READS.refused("80200 of 4096", stream(64, 64, 2, 4, far), 9, leastPlace(4));
        Bytes less = growing(90).put(0).stop().bytes();
        READS.refused("4096 of 4032", stream(64, 63, 2, 4, less), 9, leastPlace(4));
    }

    /** "an INDEX that is not below its TABLE's size (at LEAST)" */
    private static void indexesAreBelowTheTablesSize() {
        for (int global = 2; global <= 256; global *= 2) {
            for (int local = 0; local <= 256; local = Math.max(2, local * 2)) {
                int size = local == 0 ? global : local;
                for (int index : new int[] {0, size - 1, size, 2 * size - 1, 255}) {
                    Bytes s = Bytes.screen(2, 1, 0, new int[global]).add(0x2C).two(0, 0, 2, 1);
                    s.add(local == 0 ? 0 : 0x7F + Integer.numberOfTrailingZeros(local));
                    s.colours(new int[local]);
                    int at = s.size();
                    if (index > 255) {
                        continue;
                    }
                    s.add(8).rows(new CodeRow(8).put(0, index).stop().bytes(), 255).add(0x3B);
                    String what = "INDEX " + index + " of " + local + ", else " + global;
                    if (index < size) {
                        T.due(what, READS.taken(what, s, 1).index(0, 1), index);
                    } else {
                        READS.refused(what, s, 9, at);
                    }
                }
            }
        }
    }

    private static void indexesInsideRows() {
        for (int index = 0; index <= 3; index++) {
            for (CodeRow row : new CodeRow[] {row().put(0, index, 6), row().put(index, 6, 0),
                row().put(0, 1, index, 8), row().put(index, 0, 6)}) {
                int places = row.next() == 9 ? 5 : 4;
                Bytes s = stream(places, 1, 2, 2, row.stop().bytes());
                if (index < 2) {
                    READS.taken("INDEX " + index + " in a row", s, 1);
                } else {
                    READS.refused("INDEX " + index + " in a row", s, 9, leastPlace(2));
                }
            }
        }
    }

    /** Two of its FAULTS in one: INDEXES that may not be come beside as many good ones as there are places. */
    private static void indexesBesideAllPlaces() {
        int[][] all = {{2, 0, 1}, {0, 2, 1}, {0, 1, 2}, {3, 0, 1}, {2, 6, 0, 1}, {0, 1, 3, 3}, {2, 2, 0, 1}};
        for (int[] codes : all) {
            Bytes s = stream(2, 1, 2, 2, row().put(codes).stop().bytes());
            READS.refused("beside all places " + java.util.Arrays.toString(codes), s, 9, leastPlace(2));
        }
    }

    /** "all bytes of an IMAGE's ROWS one behind the other": rows of each length from 1 to 255. */
    private static void rowsAreOneBehindTheOther() {
        CodeRow codes = new CodeRow(8).singles(400).stop();
        for (int most = 1; most <= 255; most++) {
            Bytes s = Bytes.screen(20, 20, 0, 1, 2, 3, 4).add(0x2C).two(0, 0, 20, 20).add(0, 8);
            PictureReel x = READS.taken("rows of " + most, s.rows(codes.bytes(), most).add(0x3B), 1);
            int others = 0;
            for (int i = 0; i < 400; i++) {
                others += x.index(0, i) == i % 3 ? 0 : 1;
            }
            T.due("rows of " + most + ": INDEXES that are others", others, 0);
        }
    }

    /** "INTERLACED: lines 0, 8, 16 .. first, then 4, 12 .., then 2, 6, 10 .., then 1, 3, 5 .." */
    private static void interlacedLines() {
        int[] order = new int[64];
        int at = 0;
        for (int[] pass : new int[][] {{0, 8}, {4, 8}, {2, 4}, {1, 2}}) {
            for (int line = pass[0]; line < 64; line += pass[1]) {
                order[at++] = line;
            }
        }
        for (int height = 1; height <= 64; height++) {
            for (int width : new int[] {1, 3}) {
                CodeRow codes = new CodeRow(6);
                for (int line : order) {
                    for (int i = 0; i < width && line < height; i++) {
                        codes.put((line + i) % 64);
                    }
                }
                Bytes s = Bytes.screen(3, 64, 0, new int[64]).add(0x2C).two(0, 64 - height, width, height);
                s.add(0x40, 6).rows(codes.stop().bytes(), 255).add(0x3B);
                PictureReel x = READS.taken(height + " lines", s, 1);
                int others = 0;
                for (int i = 0; i < width * height; i++) {
                    others += x.index(0, i) == (i / width + i % width) % 64 ? 0 : 1;
                }
                T.due(height + " lines: INDEXES that are others", others, 0);
            }
        }
    }

    /** "9, behind its ROWS": what ends in them is 2, and what comes behind them is not come to. */
    private static void codesAreLookedAtBehindTheRows() {
        Bytes wrong = Bytes.codes(0, 3, 7, 3, 7, 3, 7, 3, 7, 3);
        Bytes s = Bytes.screen(1, 1, 0, 1, 2, 3, 4).add(0x2C).two(0, 0, 1, 1).add(0, 2);
        int from = s.size();
        s.rows(wrong, 1);
        int end = s.size();
        for (int n = from; n < end; n++) {
            READS.refused("wrong codes, cut at " + n, s.first(n), 2, n);
        }
        READS.refused("wrong codes", s.first(end), 9, leastPlace(4));
        READS.refused("wrong codes, and no BLOCK", s.first(end).add(7), 9, leastPlace(4));
        READS.refused("wrong codes, and the end", s.first(end).add(0x3B, 0), 9, leastPlace(4));
        Bytes second = Bytes.screen(1, 1, 0, 1, 2, 3, 4).image(0, 0, 1, 1, Bytes.single(3));
        int place = second.size() + 10;
        READS.refused("a second IMAGE's LEAST", second.image(0, 0, 1, 1, wrong), 9, place);
    }
}
