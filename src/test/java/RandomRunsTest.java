import java.util.Random;

/** All promises: runs of calls in no order, each answer compared with that of the PlainReel. */
public final class RandomRunsTest {
    private static final Checks T = new Checks("RandomRunsTest");
    private static final int[] EDGES = {Integer.MIN_VALUE, Integer.MAX_VALUE, -2, -1, 0, 1, 2, 3, 4,
        7, 8, 23, 24, 25, 63, 64, 65, 255, 256, 257, 4095, 4096, 65535, 65536, 0xFFFFFF, 0x1000000};

    private final Random random;
    private final PictureReel x = new PictureReel();
    private final PlainReel y = new PlainReel();
    private final String run;

    private RandomRunsTest(int seed) {
        random = new Random(seed);
        run = "run " + seed + ": ";
    }

    public static void main(String[] args) {
        int runs = args.length > 0 ? Integer.parseInt(args[0]) : 400;
        int from = args.length > 1 ? Integer.parseInt(args[1]) : 0;
        for (int seed = from; seed < from + runs && T.isClean(); seed++) {
            new RandomRunsTest(seed).go();
        }
        T.finish();
    }

    /** A picture with FRAMES of all kinds, small enough for its places to be looked at. */
    static PictureReel randomPicture(Random random, int most) {
        PictureReel p = new PictureReel();
        int width = 1 + random.nextInt(most);
        int height = 1 + random.nextInt(most);
        p.begin(width, height, 2 << random.nextInt(6), random.nextInt(256));
        for (int k = 0; k < 20; k++) {
            p.colour(-1, k, random.nextInt(0x1000000));
        }
        int frames = random.nextInt(6);
        for (int f = 0; f < frames; f++) {
            int w = 1 + random.nextInt(width);
            int h = 1 + random.nextInt(height);
            int colours = random.nextBoolean() ? 0 : 2 << random.nextInt(8);
            int left = random.nextInt(width - w + 1);
            int top = random.nextInt(height - h + 1);
            p.frame(left, top, w, h, colours, random.nextBoolean());
            for (int i = 0; i < 60; i++) {
                p.colour(f, random.nextInt(256), random.nextInt(0x1000000));
                p.paint(f, random.nextInt(w * h), random.nextInt(9), random.nextInt(256));
                p.paint(f, random.nextInt(w * h), random.nextInt(5), random.nextInt(4));
            }
            p.control(f, random.nextInt(8), random.nextInt(9) - 1, random.nextInt(65536),
                    random.nextBoolean());
        }
        return p;
    }

    private void go() {
        int calls = 30 + random.nextInt(200);
        for (int i = 0; i < calls && T.isClean(); i++) {
            int turn = random.nextInt(100);
            if (turn < 6) {
                drawSome();
            } else if (turn < 16) {
                readSome();
            } else if (turn < 26) {
                writeSome();
            } else if (turn < 30) {
                callTape();
            } else if (turn < 50) {
                draw();
            } else {
                ask();
            }
        }
    }

    private int any(int near) {
        int way = random.nextInt(12);
        if (way == 0) {
            return EDGES[random.nextInt(EDGES.length)];
        }
        return way == 1 ? random.nextInt(near + 4) - 2 : random.nextInt(near);
    }

    private void same(String call, long got, long want) {
        T.due(run + call, got, want);
    }

    private void same(String call, boolean got, boolean want) {
        T.due(run + call, got, want);
    }

    private void callTape() {
        int a = random.nextInt();
        int b = random.nextInt();
        switch (random.nextInt(3)) {
            case 0: same("feed", x.feed(a, b, a ^ b, a + b, 0), y.feed(a, b, a ^ b, a + b, 0)); break;
            case 1: same("take", x.take(), y.take()); break;
            default:
                int n = any(Math.max(1, x.about(6) + 1));
                same("read(" + n + ")", x.read(n), y.read(n));
        }
        askFault();
    }

    private void askFault() {
        for (int what = -1; what < 3; what++) {
            same("fault(" + what + ")", x.fault(what), y.fault(what));
        }
    }

    private int size() {
        int[] sizes = {0, 0, 2, 4, 8, 16, 32, 64, 128, 256, 3, 1, 512};
        return random.nextInt(15) == 0 ? any(260) : sizes[random.nextInt(sizes.length)];
    }

    /** A new picture with a few FRAMES, by calls on both. */
    private void drawSome() {
        int width = 1 + random.nextInt(random.nextInt(8) == 0 ? 64 : 9);
        int height = 1 + random.nextInt(random.nextInt(8) == 0 ? 64 : 9);
        int colours = random.nextInt(4) == 0 ? 0 : 2 << random.nextInt(5);
        int back = random.nextInt(20);
        same("begin", x.begin(width, height, colours, back), y.begin(width, height, colours, back));
        int many = random.nextInt(5);
        for (int i = 0; i < many; i++) {
            addFrame();
        }
    }

    private void addFrame() {
        int left = any(Math.max(1, x.about(0) / 2));
        int top = any(Math.max(1, x.about(1) / 2));
        int width = any(Math.max(1, x.about(0))) + 1;
        int height = any(Math.max(1, x.about(1))) + 1;
        int colours = size();
        boolean laced = random.nextBoolean();
        same("frame", x.frame(left, top, width, height, colours, laced),
                y.frame(left, top, width, height, colours, laced));
        for (int i = 0; i < 12; i++) {
            paint(x.about(5) - 1);
        }
    }

    private void paint(int f) {
        int i = any(Math.max(1, x.frameOf(f, 2) * x.frameOf(f, 3)));
        int many = any(6);
        int index = any(random.nextInt(3) == 0 ? 256 : 4);
        same("paint(" + f + ", " + i + ", " + many + ", " + index + ")",
                x.paint(f, i, many, index), y.paint(f, i, many, index));
    }

    private void draw() {
        int f = any(Math.max(1, x.about(5)));
        switch (random.nextInt(5)) {
            case 0: addFrame(); break;
            case 1: paint(f); break;
            case 2:
                int k = any(random.nextBoolean() ? 256 : 4);
                int rgb = any(0x1000000);
                int of = random.nextBoolean() ? -1 : f;
                same("colour", x.colour(of, k, rgb), y.colour(of, k, rgb));
                break;
            case 3:
                int disposal = any(8);
                int transparent = any(random.nextBoolean() ? 256 : 4) - random.nextInt(2);
                int delay = any(65536);
                boolean input = random.nextBoolean();
                same("control", x.control(f, disposal, transparent, delay, input),
                        y.control(f, disposal, transparent, delay, input));
                break;
            default:
                int w = any(66);
                int h = any(66);
                int c = size();
                int back = any(256);
                if (random.nextInt(4) == 0) {
                    same("begin", x.begin(w, h, c, back), y.begin(w, h, c, back));
                }
        }
    }

    private void ask() {
        int f = any(Math.max(1, x.about(5)));
        int i = any(Math.max(1, x.frameOf(f, 2) * x.frameOf(f, 3)));
        int k = any(random.nextBoolean() ? 256 : 4);
        int what = any(11);
        int px = any(x.about(0));
        int py = any(x.about(1));
        same("about(" + what + ")", x.about(what), y.about(what));
        same("frameOf(" + f + ", " + what + ")", x.frameOf(f, what), y.frameOf(f, what));
        same("colourOf(" + f + ", " + k + ")", x.colourOf(f, k), y.colourOf(f, k));
        same("colourOf(-1, " + k + ")", x.colourOf(-1, k), y.colourOf(-1, k));
        same("index(" + f + ", " + i + ")", x.index(f, i), y.index(f, i));
        same("out(" + i + ")", x.out(i), y.out(i));
        same("canvas(" + f + ", " + px + ", " + py + ")", x.canvas(f, px, py), y.canvas(f, px, py));
    }

    private void writeSome() {
        same("write", x.write(), y.write());
        for (int i = 0; i <= x.about(7); i++) {
            same("out(" + i + ")", x.out(i), y.out(i));
        }
        if (random.nextBoolean()) {
            same("take", x.take(), y.take());
            int n = random.nextInt(3) == 0 ? any(x.about(6) + 1) : x.about(6);
            same("read(" + n + ")", x.read(n), y.read(n));
            askFault();
        }
    }

    // streams that are as told, or nearly so

    private void readSome() {
        Bytes s = randomStream();
        for (int hits = random.nextInt(4) - 1; hits > 0; hits--) {
            int at = random.nextInt(s.size());
            s.set(at, random.nextBoolean() ? random.nextInt(256) : s.at(at) ^ 1 << random.nextInt(8));
        }
        int tail = random.nextInt(8);
        s = tail == 0 ? s.first(random.nextInt(s.size() + 1)) : tail == 1 ? s.add(0x3B) : s;
        same("empty tape", x.take() + x.read(0), y.take() + y.read(0));
        for (int from = 0; from < s.size(); from += 20) {
            int a = s.word(from);
            int b = s.word(from + 4);
            int c = s.word(from + 8);
            int d = s.word(from + 12);
            int e = s.word(from + 16);
            same("feed", x.feed(a, b, c, d, e), y.feed(a, b, c, d, e));
        }
        same("read of " + s, x.read(s.size()), y.read(s.size()));
        askFault();
        for (int i = 0; i < 6; i++) {
            ask();
        }
    }

    private Bytes randomStream() {
        int width = 1 + random.nextInt(random.nextInt(6) == 0 ? 64 : 7);
        int height = 1 + random.nextInt(random.nextInt(6) == 0 ? 64 : 20);
        int mark = random.nextInt(256) & ~random.nextInt(8) | random.nextInt(2) << 7;
        Bytes s = new Bytes().add(random.nextInt(9) == 0 ? "GIF87a" : "GIF89a").two(width, height);
        s.add(mark, random.nextInt(8), random.nextInt(256));
        int global = tableBytes(s, mark);
        for (int blocks = random.nextInt(6); blocks > 0; blocks--) {
            block(s, width, height, global);
        }
        return s.add(0x3B);
    }

    private int tableBytes(Bytes s, int mark) {
        int size = (mark & 128) == 0 ? 0 : 2 << (mark & 7);
        for (int i = 0; i < size; i++) {
            s.colours(random.nextInt(0x1000000));
        }
        return size;
    }

    private Bytes noise(int most) {
        Bytes s = new Bytes();
        for (int i = random.nextInt(most); i > 0; i--) {
            s.add(random.nextInt(256));
        }
        return s;
    }

    private void block(Bytes s, int width, int height, int global) {
        boolean newer = s.at(4) == '9';
        int way = newer ? random.nextInt(10) : 9;
        if (way == 0) {
            s.add(0x21, 0xFE).rows(noise(40), 1 + random.nextInt(20));
        } else if (way == 1) {
            s.add(0x21, 0xFF, 11).add("eleven byte").rows(noise(9), 255);
        } else {
            if (newer && random.nextInt(3) != 0) {
                s.control(random.nextInt(256), random.nextInt(65536), random.nextInt(8));
            }
            if (way == 2) {
                s.add(0x21, 1, 12).add("twelve bytes").rows(noise(9), 255);
            } else {
                image(s, width, height, global);
            }
        }
    }

    private void image(Bytes s, int width, int height, int global) {
        int w = 1 + random.nextInt(width);
        int h = 1 + random.nextInt(height);
        s.add(0x2C).two(random.nextInt(width - w + 1), random.nextInt(height - h + 1), w, h);
        int mark = random.nextInt(128) | (global == 0 || random.nextInt(3) == 0 ? 128 : 0);
        s.add(mark);
        int size = tableBytes(s, mark);
        size = size == 0 ? global : size;
        int least = 2 + random.nextInt(7);
        s.add(least).rows(randomCodes(w * h, least, Math.min(size, 1 << least)), 1 + random.nextInt(255));
    }

    /** Codes that a reader must take, chosen in no order among those that are told. */
    private Bytes randomCodes(int places, int least, int colours) {
        int clear = 1 << least;
        int used = random.nextBoolean() ? Math.min(colours, 2) : colours;
        int[] lengths = new int[4097];
        int[] codes = new int[2 * (2 * places + 8)];
        int at = 0;
        int size = least + 1;
        int next = clear + 2;
        int ahead = -1;
        codes[at++] = clear;
        codes[at++] = size;
        for (int left = places; left > 0; ) {
            boolean full = at > codes.length - 8;
            if (!full && random.nextInt(30) == 0) {
                codes[at++] = clear;
                codes[at++] = size;
                size = least + 1;
                next = clear + 2;
                ahead = -1;
                continue;
            }
            int code = random.nextInt(used);
            int length = 1;
            if (ahead >= 0 && random.nextInt(3) != 0) {
                int other = clear + 2 + random.nextInt(next - clear - 1);
                other = random.nextInt(4) == 0 ? next : other;
                int otherLength = other == next ? lengthOf(lengths, ahead, clear) + 1 : lengths[other];
                if (otherLength <= left && other < 4096) {
                    code = other;
                    length = otherLength;
                }
            }
            codes[at++] = code;
            codes[at++] = size;
            left -= length;
            if (ahead >= 0 && next < 4096) {
                lengths[next] = lengthOf(lengths, ahead, clear) + 1;
                next++;
                size = next == 1 << size && size < 12 ? size + 1 : size;
            }
            ahead = code;
        }
        codes[at++] = clear + 1;
        codes[at++] = size;
        return Bytes.codes(java.util.Arrays.copyOf(codes, at));
    }

    private static int lengthOf(int[] lengths, int code, int clear) {
        return code < clear ? 1 : lengths[code];
    }
}
