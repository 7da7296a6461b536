/**
 * Moving pictures as GIF89a tells them: streams are read or refused, canvases put together,
 * pictures drawn and written. All rows are made once, with the object, and used again by every
 * call, so that no call makes anything.
 */
public final class PictureReel {
    public static final int NONE = -1;

    private static final int REFUSED = -2;
    private static final int EMPTY = -1;
    private static final int MOST_BYTES = 12000;
    private static final int MOST_SIDE = 64;
    private static final int MOST_PLACES = MOST_SIDE * MOST_SIDE;
    private static final int MOST_FRAMES = 24;
    private static final int MOST_COLOURS = 256;
    private static final int MOST_CODES = 4096;
    private static final int MOST_BITS = 12;
    private static final int FED_BYTES = 20;

    private static final int IMAGE = 0x2C;
    private static final int EXTENSION = 0x21;
    private static final int END = 0x3B;
    private static final int CONTROL = 0xF9;
    private static final int REMARK = 0xFE;
    private static final int TEXT = 0x01;
    private static final int APPLICATION = 0xFF;
    private static final int CONTROL_BYTES = 4;
    private static final int TEXT_BYTES = 12;
    private static final int APPLICATION_BYTES = 11;

    private static final int WRONG_START = 1;
    private static final int TOO_SHORT = 2;
    private static final int WRONG_SCREEN = 3;
    private static final int WRONG_BLOCK = 4;
    private static final int WRONG_LENGTH = 5;
    private static final int WRONG_IMAGE = 6;
    private static final int NO_TABLE = 7;
    private static final int WRONG_LEAST = 8;
    private static final int WRONG_CODES = 9;
    private static final int TOO_LONG = 10;

    private final ByteRow tape;
    private final StreamReader reader;
    private final StreamWriter writer;
    private Picture picture;
    private ByteRow made;
    private boolean hasRead;

    public PictureReel() {
        reader = new StreamReader();
        tape = reader.source;
        made = new ByteRow();
        picture = new Picture();
        writer = new StreamWriter();
        hasRead = false;
    }

    public int feed(int a, int b, int c, int d, int e) {
        if (tape.size > MOST_BYTES - FED_BYTES) {
            return NONE;
        }
        tape.addFour(a);
        tape.addFour(b);
        tape.addFour(c);
        tape.addFour(d);
        tape.addFour(e);
        return tape.size;
    }

    public int take() {
        tape.copyFrom(made);
        return tape.size;
    }

    public int read(int n) {
        if (n < 0 || n > tape.size) {
            return REFUSED;
        }
        reader.parse(n);
        hasRead = true;
        tape.clear();
        if (reader.kind != 0) {
            return NONE;
        }
        picture = reader.exchange(picture);
        return picture.frameCount;
    }

    public int fault(int what) {
        if (!hasRead) {
            return NONE;
        }
        switch (what) {
            case 0: return reader.kind;
            case 1: return reader.place;
            default: return NONE;
        }
    }

    public boolean begin(int width, int height, int colours, int background) {
        if (!isSide(width) || !isSide(height) || !isTableSize(colours) || !isByte(background)) {
            return false;
        }
        picture.reset(width, height, colours, background, 0);
        return true;
    }

    public boolean colour(int frame, int k, int rgb) {
        Table table = tableAt(frame);
        if (table == null || !table.has(k) || rgb < 0 || rgb > 0xFFFFFF) {
            return false;
        }
        table.colours[k] = rgb;
        return true;
    }

    public int frame(int left, int top, int width, int height, int colours, boolean interlaced) {
        if (!picture.hasRoom() || !picture.holds(left, top, width, height)
                || !isTableSize(colours) || !picture.givesTable(colours)) {
            return NONE;
        }
        picture.addFrame(left, top, width, height, colours, interlaced);
        return picture.frameCount - 1;
    }

    public boolean control(int frame, int disposal, int transparent, int delay, boolean input) {
        Frame it = picture.frameAt(frame);
        if (it == null || disposal < 0 || disposal > 7 || delay < 0 || delay > 0xFFFF) {
            return false;
        }
        if (transparent != NONE && !isByte(transparent)) {
            return false;
        }
        it.ways.become(disposal, transparent, delay, input);
        return true;
    }

    public boolean paint(int frame, int i, int many, int index) {
        Frame it = picture.frameAt(frame);
        if (it == null || i < 0 || many < 0 || i > it.size() || many > it.size() - i) {
            return false;
        }
        if (!picture.tableOf(it).has(index)) {
            return false;
        }
        it.fill(i, i + many, index);
        return true;
    }

    public int write() {
        if (!writer.compose(picture)) {
            return NONE;
        }
        made = writer.exchange(made);
        return made.size;
    }

    public int out(int i) {
        return made.at(i);
    }

    public int about(int what) {
        switch (what) {
            case 0: return picture.width;
            case 1: return picture.height;
            case 2: return picture.global.size;
            case 3: return picture.background;
            case 4: return picture.aspect;
            case 5: return picture.frameCount;
            case 6: return tape.size;
            case 7: return made.size;
            default: return NONE;
        }
    }

    public int frameOf(int frame, int what) {
        Frame it = picture.frameAt(frame);
        if (it == null) {
            return NONE;
        }
        switch (what) {
            case 0: return it.left;
            case 1: return it.top;
            case 2: return it.width;
            case 3: return it.height;
            case 4: return it.local.size;
            case 5: return it.interlaced ? 1 : 0;
            case 6: return it.ways.disposal;
            case 7: return it.ways.transparent;
            case 8: return it.ways.delay;
            case 9: return it.ways.input ? 1 : 0;
            default: return NONE;
        }
    }

    public int colourOf(int frame, int k) {
        Table table = tableAt(frame);
        if (table == null || !table.has(k)) {
            return NONE;
        }
        return table.colours[k];
    }

    public int index(int frame, int i) {
        Frame it = picture.frameAt(frame);
        if (it == null || i < 0 || i >= it.size()) {
            return NONE;
        }
        return it.places[i];
    }

    public int canvas(int frame, int x, int y) {
        if (picture.frameAt(frame) == null
                || x < 0 || x >= picture.width || y < 0 || y >= picture.height) {
            return REFUSED;
        }
        return picture.colourAt(frame, x, y);
    }

    /** The GLOBAL TABLE for NONE, else that FRAME's LOCAL one; null where there is no such FRAME. */
    private Table tableAt(int frame) {
        if (frame == NONE) {
            return picture.global;
        }
        Frame it = picture.frameAt(frame);
        return it == null ? null : it.local;
    }

    private static boolean isSide(int number) {
        return number >= 1 && number <= MOST_SIDE;
    }

    private static boolean isByte(int number) {
        return number >= 0 && number <= 255;
    }

    private static boolean isTableSize(int number) {
        return number == 0
                || number >= 2 && number <= MOST_COLOURS && Integer.bitCount(number) == 1;
    }

    /** Bytes in a row of the document's greatest length; over tells that more would have come. */
    private static final class ByteRow {
        final int[] bytes;
        int size;
        boolean over;

        ByteRow() {
            bytes = new int[MOST_BYTES];
            size = 0;
            over = false;
        }

        void clear() {
            size = 0;
            over = false;
        }

        void add(int value) {
            if (size >= MOST_BYTES) {
                over = true;
                return;
            }
            bytes[size] = value & 255;
            size++;
        }

        void addTwo(int value) {
            add(value);
            add(value >> 8);
        }

        void addFour(int value) {
            add(value >> 24);
            add(value >> 16);
            add(value >> 8);
            add(value);
        }

        int at(int i) {
            return i >= 0 && i < size ? bytes[i] : NONE;
        }

        void copyFrom(ByteRow other) {
            System.arraycopy(other.bytes, 0, bytes, 0, other.size);
            size = other.size;
            over = other.over;
        }
    }

    /** A table of colours; one of size 0 stands for none. */
    private static final class Table {
        final int[] colours;
        int size;

        Table() {
            colours = new int[MOST_COLOURS];
            size = 0;
        }

        void reset(int many) {
            size = many;
            for (int k = 0; k < many; k++) {
                colours[k] = 0;
            }
        }

        boolean has(int k) {
            return k >= 0 && k < size;
        }

        int power() {
            return Integer.numberOfTrailingZeros(size);
        }

        /** Bit 7 and bits 2 to 0 of the byte that tells of this table in a stream. */
        int mark() {
            return size == 0 ? 0 : 0x80 + power() - 1;
        }

        static int sizeByMark(int mark) {
            return (mark & 0x80) == 0 ? 0 : 2 << (mark & 7);
        }
    }

    /** What a FRAME has by a control block. */
    private static final class Ways {
        int disposal;
        int transparent;
        int delay;
        boolean input;

        Ways() {
            reset();
        }

        void reset() {
            become(0, NONE, 0, false);
        }

        void become(int newDisposal, int newTransparent, int newDelay, boolean newInput) {
            disposal = newDisposal;
            transparent = newTransparent;
            delay = newDelay;
            input = newInput;
        }

        void copyFrom(Ways other) {
            become(other.disposal, other.transparent, other.delay, other.input);
        }
    }

    /** One FRAME, with room for the greatest one, so that it can be used again for any. */
    private static final class Frame {
        private static final int[] PASS_STARTS = {0, 4, 2, 1};
        private static final int[] PASS_SHIFTS = {3, 3, 2, 1};

        int left;
        int top;
        int width;
        int height;
        boolean interlaced;
        final Table local;
        final Ways ways;
        final int[] places;

        Frame() {
            left = 0;
            top = 0;
            width = 1;
            height = 1;
            interlaced = false;
            local = new Table();
            ways = new Ways();
            places = new int[MOST_PLACES];
        }

        void reset(int newLeft, int newTop, int newWidth, int newHeight) {
            left = newLeft;
            top = newTop;
            width = newWidth;
            height = newHeight;
            ways.reset();
            fill(0, size(), 0);
        }

        int size() {
            return width * height;
        }

        void fill(int from, int to, int value) {
            for (int i = from; i < to; i++) {
                places[i] = value;
            }
        }

        boolean covers(int x, int y) {
            return x >= left && x < left + width && y >= top && y < top + height;
        }

        int indexAt(int x, int y) {
            return places[(y - top) * width + x - left];
        }

        void fromStreamOrder(int[] order) {
            for (int nth = 0; nth < height; nth++) {
                System.arraycopy(order, nth * width, places, lineOf(nth) * width, width);
            }
        }

        void toStreamOrder(int[] order) {
            for (int nth = 0; nth < height; nth++) {
                System.arraycopy(places, lineOf(nth) * width, order, nth * width, width);
            }
        }

        /** Which line comes as the nth one in a stream. */
        private int lineOf(int nth) {
            if (!interlaced) {
                return nth;
            }
            int rest = nth;
            for (int pass = 0; pass < PASS_STARTS.length; pass++) {
                int start = PASS_STARTS[pass];
                int shift = PASS_SHIFTS[pass];
                int lines = (height - start + (1 << shift) - 1) >> shift;
                if (rest < lines) {
                    return start + (rest << shift);
                }
                rest -= lines;
            }
            return nth;
        }
    }

    /** A canvas with its GLOBAL TABLE and its FRAMES. */
    private static final class Picture {
        int width;
        int height;
        int background;
        int aspect;
        int frameCount;
        final Table global;
        final Frame[] frames;

        Picture() {
            global = new Table();
            frames = new Frame[MOST_FRAMES];
            for (int f = 0; f < MOST_FRAMES; f++) {
                frames[f] = new Frame();
            }
            reset(1, 1, 0, 0, 0);
        }

        void reset(int newWidth, int newHeight, int colours, int newBackground, int newAspect) {
            width = newWidth;
            height = newHeight;
            background = newBackground;
            aspect = newAspect;
            frameCount = 0;
            global.reset(colours);
        }

        boolean hasRoom() {
            return frameCount < MOST_FRAMES;
        }

        /** Sums are not formed here, since any numbers may come and a sum might wrap around. */
        boolean holds(int left, int top, int wide, int high) {
            return wide >= 1 && wide <= width && left >= 0 && left <= width - wide
                    && high >= 1 && high <= height && top >= 0 && top <= height - high;
        }

        /** Whether a FRAME with so many colours of its own has a TABLE. */
        boolean givesTable(int colours) {
            return colours != 0 || global.size != 0;
        }

        Frame frameAt(int f) {
            return f >= 0 && f < frameCount ? frames[f] : null;
        }

        Table tableOf(Frame it) {
            return it.local.size != 0 ? it.local : global;
        }

        /** Only behind hasRoom, holds and givesTable. */
        Frame addFrame(int left, int top, int wide, int high, int colours, boolean interlaced) {
            Frame it = frames[frameCount];
            it.reset(left, top, wide, high);
            it.local.reset(colours);
            it.interlaced = interlaced;
            frameCount++;
            return it;
        }

        /** One place's story from FRAME 0 on is enough: no place of a canvas looks at another. */
        int colourAt(int frame, int x, int y) {
            int back = global.has(background) ? global.colours[background] : EMPTY;
            int found = back;
            for (int f = 0; f < frame; f++) {
                found = leftBehind(frames[f], x, y, found, back);
            }
            return shown(frames[frame], x, y, found);
        }

        private int shown(Frame it, int x, int y, int found) {
            if (!it.covers(x, y)) {
                return found;
            }
            int value = it.indexAt(x, y);
            return value == it.ways.transparent ? found : tableOf(it).colours[value];
        }

        private int leftBehind(Frame it, int x, int y, int found, int back) {
            if (!it.covers(x, y) || it.ways.disposal == 3) {
                return found;
            }
            return it.ways.disposal == 2 ? back : shown(it, x, y, found);
        }
    }

    /** The reader of streams. Behind the first fault no byte is come to, so later ones don't count. */
    private static final class StreamReader {
        private static final int START_BYTES = 6;
        private static final int WIDTH_PLACE = 6;
        private static final int HEIGHT_PLACE = 8;

        final ByteRow source;
        private final CodeReader codes;
        private final Ways pending;
        private Picture draft;
        private int length;
        private int at;
        private boolean older;
        private boolean controlled;
        private boolean ended;
        int kind;
        int place;

        StreamReader() {
            source = new ByteRow();
            codes = new CodeReader();
            pending = new Ways();
            draft = new Picture();
            kind = 0;
            place = NONE;
        }

        /** Gives the picture that was read away, for another one to be written over. */
        Picture exchange(Picture former) {
            Picture done = draft;
            draft = former;
            return done;
        }

        void parse(int n) {
            length = Math.min(n, source.size);
            at = 0;
            older = false;
            ended = false;
            kind = 0;
            place = NONE;
            dropControl();
            parseStart();
            parseScreen();
            // a block has one byte at least, and the last turn finds that the stream ends
            for (int turn = 0; turn <= length && kind == 0 && !ended; turn++) {
                parseBlock();
            }
        }

        private void refuse(int newKind, int newPlace) {
            if (kind == 0) {
                kind = newKind;
                place = newPlace;
            }
        }

        private int nextByte() {
            if (at >= length) {
                refuse(TOO_SHORT, length);
            }
            if (kind != 0) {
                return 0;
            }
            at++;
            return source.at(at - 1);
        }

        private int nextNumber() {
            int low = nextByte();
            return low + (nextByte() << 8);
        }

        private void skip(int many) {
            for (int i = 0; i < many; i++) {
                nextByte();
            }
        }

        private void expect(int wanted) {
            int here = at;
            if (nextByte() != wanted) {
                refuse(WRONG_LENGTH, here);
            }
        }

        private void parseStart() {
            for (int i = 0; i < START_BYTES; i++) {
                int got = nextByte();
                boolean olderHere = i == 4 && got == '7';
                if (got != StreamWriter.START[i] && !olderHere) {
                    refuse(WRONG_START, 0);
                }
                older = older || olderHere;
            }
        }

        private void parseScreen() {
            int width = nextNumber();
            if (!isSide(width)) {
                refuse(WRONG_SCREEN, WIDTH_PLACE);
            }
            int height = nextNumber();
            if (!isSide(height)) {
                refuse(WRONG_SCREEN, HEIGHT_PLACE);
            }
            int mark = nextByte();
            int background = nextByte();
            int aspect = nextByte();
            if (kind == 0) {
                draft.reset(width, height, Table.sizeByMark(mark), background, aspect);
                parseTable(draft.global);
            }
        }

        private void parseTable(Table table) {
            for (int k = 0; k < table.size; k++) {
                int red = nextByte();
                int green = nextByte();
                int blue = nextByte();
                table.colours[k] = red << 16 | green << 8 | blue;
            }
        }

        private void parseBlock() {
            int here = at;
            int first = nextByte();
            if (first == IMAGE) {
                parseImage(here);
            } else if (first == EXTENSION && !older) {
                parseExtension();
            } else if (first == END && !controlled) {
                parseEnd();
            } else {
                refuse(WRONG_BLOCK, here);
            }
        }

        private void parseEnd() {
            ended = true;
            if (at < length) {
                refuse(TOO_LONG, at);
            }
        }

        private void parseExtension() {
            int here = at;
            int label = nextByte();
            if (label == TEXT) {
                expect(TEXT_BYTES);
                skip(TEXT_BYTES);
                gatherRows();
                dropControl();
            } else if (label == CONTROL && !controlled) {
                parseControl();
            } else if (label == REMARK && !controlled) {
                gatherRows();
            } else if (label == APPLICATION && !controlled) {
                expect(APPLICATION_BYTES);
                skip(APPLICATION_BYTES);
                gatherRows();
            } else {
                refuse(WRONG_BLOCK, here);
            }
        }

        private void parseControl() {
            expect(CONTROL_BYTES);
            int bits = nextByte();
            int delay = nextNumber();
            int last = nextByte();
            expect(0);
            int transparent = (bits & 1) != 0 ? last : NONE;
            pending.become(bits >> 2 & 7, transparent, delay, (bits & 2) != 0);
            controlled = true;
        }

        private void dropControl() {
            pending.reset();
            controlled = false;
        }

        private void parseImage(int here) {
            Frame it = parseFrame(here);
            int leastPlace = at;
            int least = nextByte();
            if (least < 2 || least > 8) {
                refuse(WRONG_LEAST, leastPlace);
            }
            gatherRows();
            if (kind != 0 || it == null) {
                return;
            }
            if (codes.decode(least, it.size(), draft.tableOf(it).size)) {
                it.fromStreamOrder(codes.order);
            } else {
                refuse(WRONG_CODES, leastPlace);
            }
        }

        /** An IMAGE up to LEAST; null where it is refused. */
        private Frame parseFrame(int here) {
            int left = nextNumber();
            int top = nextNumber();
            int width = nextNumber();
            int height = nextNumber();
            if (!draft.hasRoom() || !draft.holds(left, top, width, height)) {
                refuse(WRONG_IMAGE, here);
            }
            int mark = nextByte();
            int colours = Table.sizeByMark(mark);
            if (!draft.givesTable(colours)) {
                refuse(NO_TABLE, here);
            }
            if (kind != 0) {
                return null;
            }
            Frame it = draft.addFrame(left, top, width, height, colours, (mark & 0x40) != 0);
            it.ways.copyFrom(pending);
            dropControl();
            parseTable(it.local);
            return it;
        }

        private void gatherRows() {
            codes.bytes.clear();
            // a row has one byte at least
            for (int turn = 0; turn <= length && kind == 0; turn++) {
                int many = nextByte();
                if (many == 0) {
                    return;
                }
                for (int i = 0; i < many; i++) {
                    codes.bytes.add(nextByte());
                }
            }
        }
    }

    /** The reader of codes. A row is held as that of another code and one INDEX behind it. */
    private static final class CodeReader {
        final ByteRow bytes;
        final int[] order;
        private final int[] ahead;
        private final int[] first;
        private final int[] last;
        private final int[] lengths;
        private int least;
        private int bitAt;
        private int bits;
        private int next;
        private int former;
        private int done;

        CodeReader() {
            bytes = new ByteRow();
            order = new int[MOST_PLACES];
            ahead = new int[MOST_CODES];
            first = new int[MOST_CODES];
            last = new int[MOST_CODES];
            lengths = new int[MOST_CODES];
        }

        /** Whether the bytes are codes of so many places, each INDEX below the limit. */
        boolean decode(int newLeast, int places, int limit) {
            int clear = 1 << newLeast;
            start(newLeast);
            if (nextCode() != clear) {
                return false;
            }
            // no code is shorter than a bit
            for (int turn = 0; turn < bytes.size * 8; turn++) {
                int code = nextCode();
                if (code == clear + 1) {
                    return done == places && (bitAt - 1) >> 3 == bytes.size - 1;
                }
                if (code == clear) {
                    forget();
                } else if (!isKnown(code) || !putOut(code, places, limit)) {
                    return false;
                }
            }
            return false;
        }

        private void start(int newLeast) {
            least = newLeast;
            bitAt = 0;
            done = 0;
            for (int value = 0; value < 1 << least; value++) {
                first[value] = value;
                last[value] = value;
                lengths[value] = 1;
            }
            forget();
        }

        private void forget() {
            bits = least + 1;
            next = (1 << least) + 2;
            former = NONE;
        }

        private int nextCode() {
            if (bitAt + bits > bytes.size * 8) {
                return NONE;
            }
            int i = bitAt >> 3;
            // where there is no byte any more, none of its bits is in the code
            int three = bytes.at(i) | Math.max(bytes.at(i + 1), 0) << 8
                    | Math.max(bytes.at(i + 2), 0) << 16;
            int code = three >> (bitAt & 7) & (1 << bits) - 1;
            bitAt += bits;
            return code;
        }

        /** Also tells the row that comes by this code, so that the code NEXT has one, too. */
        private boolean isKnown(int code) {
            boolean tells = former != NONE && next < MOST_CODES;
            if (code < 0 || code > next || code == next && !tells) {
                return false;
            }
            if (tells) {
                tell(first[code == next ? former : code]);
            }
            former = code;
            return true;
        }

        private void tell(int value) {
            ahead[next] = former;
            first[next] = first[former];
            last[next] = value;
            lengths[next] = lengths[former] + 1;
            next++;
            if (next == 1 << bits && bits < MOST_BITS) {
                bits++;
            }
        }

        private boolean putOut(int code, int places, int limit) {
            int many = lengths[code];
            if (many > places - done) {
                return false;
            }
            int row = code;
            for (int i = many - 1; i >= 0; i--) {
                if (last[row] >= limit) {
                    return false;
                }
                order[done + i] = last[row];
                row = i > 0 ? ahead[row] : row;
            }
            done += many;
            return true;
        }
    }

    /** The writer of streams, into a row of its own that is given away when it is whole. */
    private static final class StreamWriter {
        private static final int[] START = {'G', 'I', 'F', '8', '9', 'a'};
        private static final int ROW_BYTES = 255;

        private final CodeWriter codes;
        private ByteRow draft;

        StreamWriter() {
            codes = new CodeWriter();
            draft = new ByteRow();
        }

        /** Gives the stream that was written away, for another one to be written over. */
        ByteRow exchange(ByteRow former) {
            ByteRow done = draft;
            draft = former;
            return done;
        }

        /** Whether the picture fits into as many bytes as there may be. */
        boolean compose(Picture picture) {
            draft.clear();
            putScreen(picture);
            for (int f = 0; f < picture.frameCount && !draft.over; f++) {
                Frame it = picture.frames[f];
                putControl(it.ways);
                putImage(it, Math.max(picture.tableOf(it).power(), 2));
            }
            draft.add(END);
            return !draft.over;
        }

        private void putScreen(Picture picture) {
            for (int i = 0; i < START.length; i++) {
                draft.add(START[i]);
            }
            draft.addTwo(picture.width);
            draft.addTwo(picture.height);
            draft.add(picture.global.mark() + 0x70);
            draft.add(picture.background);
            draft.add(picture.aspect);
            putTable(picture.global);
        }

        private void putTable(Table table) {
            for (int k = 0; k < table.size; k++) {
                int rgb = table.colours[k];
                draft.add(rgb >> 16);
                draft.add(rgb >> 8);
                draft.add(rgb);
            }
        }

        private void putControl(Ways ways) {
            boolean seen = ways.transparent == NONE;
            draft.add(EXTENSION);
            draft.add(CONTROL);
            draft.add(CONTROL_BYTES);
            draft.add(ways.disposal << 2 | (ways.input ? 2 : 0) | (seen ? 0 : 1));
            draft.addTwo(ways.delay);
            draft.add(seen ? 0 : ways.transparent);
            draft.add(0);
        }

        private void putImage(Frame it, int least) {
            draft.add(IMAGE);
            draft.addTwo(it.left);
            draft.addTwo(it.top);
            draft.addTwo(it.width);
            draft.addTwo(it.height);
            draft.add(it.local.mark() + (it.interlaced ? 0x40 : 0));
            putTable(it.local);
            draft.add(least);
            it.toStreamOrder(codes.order);
            codes.encode(it.size(), least);
            putRows();
        }

        private void putRows() {
            ByteRow bytes = codes.bytes;
            for (int from = 0; from < bytes.size; from += ROW_BYTES) {
                int many = Math.min(ROW_BYTES, bytes.size - from);
                draft.add(many);
                for (int i = 0; i < many; i++) {
                    draft.add(bytes.at(from + i));
                }
            }
            draft.add(0);
        }
    }

    /** The writer of codes. Known rows hang as children under the row that is one INDEX shorter. */
    private static final class CodeWriter {
        final ByteRow bytes;
        final int[] order;
        private final int[] child;
        private final int[] sibling;
        private final int[] last;
        private int least;
        private int bits;
        private int next;
        private int former;
        private int at;
        private int held;
        private int heldBits;

        CodeWriter() {
            bytes = new ByteRow();
            order = new int[MOST_PLACES];
            child = new int[MOST_CODES];
            sibling = new int[MOST_CODES];
            last = new int[MOST_CODES];
        }

        void encode(int places, int newLeast) {
            least = newLeast;
            bytes.clear();
            held = 0;
            heldBits = 0;
            at = 0;
            putClear(least + 1);
            for (int turn = 0; turn < places && at < places; turn++) {
                if (next == MOST_CODES) {
                    putClear(bits);
                }
                putLongest(places);
            }
            putCode((1 << least) + 1, bits);
            if (heldBits > 0) {
                bytes.add(held);
            }
        }

        private void putClear(int size) {
            int clear = 1 << least;
            putCode(clear, size);
            for (int value = 0; value < clear; value++) {
                child[value] = NONE;
            }
            bits = least + 1;
            next = clear + 2;
            former = NONE;
        }

        private void putLongest(int places) {
            boolean tells = former != NONE;
            if (tells) {
                tell(order[at]);
            }
            former = longest(places);
            putCode(former, bits);
            if (tells) {
                next++;
                // the reader grows only behind this code, so it is put with the former size
                if (next == 1 << bits && bits < MOST_BITS) {
                    bits++;
                }
            }
        }

        /** The row that the reader tells as NEXT by the code that is put now. */
        private void tell(int value) {
            last[next] = value;
            child[next] = NONE;
            sibling[next] = child[former];
            child[former] = next;
        }

        private int longest(int places) {
            int row = order[at];
            at++;
            for (; at < places; at++) {
                int longer = childOf(row, order[at]);
                if (longer == NONE) {
                    return row;
                }
                row = longer;
            }
            return row;
        }

        private int childOf(int row, int value) {
            int code = child[row];
            for (int turn = 0; turn < MOST_COLOURS && code != NONE; turn++) {
                if (last[code] == value) {
                    return code;
                }
                code = sibling[code];
            }
            return NONE;
        }

        private void putCode(int code, int size) {
            held |= code << heldBits;
            heldBits += size;
            for (; heldBits >= 8; heldBits -= 8) {
                bytes.add(held);
                held >>= 8;
            }
        }
    }
}
