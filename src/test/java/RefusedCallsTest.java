import java.util.ArrayList;
import java.util.List;
import java.util.function.Supplier;

/** Each call that is refused, in states of all kinds: its answer, and that all else is as it was before. */
public final class RefusedCallsTest {
    private static final Checks T = new Checks("RefusedCallsTest");
    private static final int LEAST = Edges.LEAST;
    private static final int MOST = Edges.MOST;

    /** A way to an object, and how many bytes of its tape are a stream that is as told. */
    private static final class State {
        final String name;
        final Supplier<PictureReel> maker;
        final int stream;
        final Snapshot before;
        final Snapshot behind;
        final long answer;

        State(String name, int stream, Supplier<PictureReel> maker) {
            this.name = name;
            this.maker = maker;
            this.stream = stream;
            PictureReel x = maker.get();
            before = Snapshot.whole(x);
            answer = x.read(stream);
            behind = Snapshot.whole(x);
        }
    }

    public static void main(String[] args) {
        State[] states = {new State("new", 0, PictureReel::new), new State("drawn", 14, () -> drawn()),
            new State("own tables", 14, () -> ownTables()), new State("full", 12000, () -> full()),
            new State("no frames", 26, () -> noFrames()), new State("greatest", 20, () -> greatest())};
        for (State s : states) {
            T.due(s.name + ": its tape is a stream", s.answer >= 0, s.stream > 0);
            refusesReads(s);
            refusesBegins(s);
            refusesColours(s);
            refusesFrames(s);
            refusesControls(s);
            refusesPaints(s);
            refusesQuestions(s);
        }
        refusesWhatIsOverTwelveThousand(states[3]);
        T.finish();
    }

    /** A picture of three FRAMES, OUT of another, a tape of a third, and a FAULT. */
    private static PictureReel drawn() {
        PictureReel x = new PictureReel();
        x.begin(2, 2, 2, 1);
        x.frame(0, 0, 2, 2, 0, false);
        x.write();
        x.feed(1, 2, 3, 4, 5);
        x.read(7);
        x.begin(5, 4, 8, 3);
        x.frame(1, 1, 3, 2, 4, true);
        x.frame(0, 0, 5, 4, 0, false);
        x.frame(4, 3, 1, 1, 16, false);
        x.paint(0, 1, 3, 3);
        x.paint(1, 7, 9, 7);
        x.paint(2, 0, 1, 15);
        x.colour(-1, 3, 0x030303);
        x.colour(0, 3, 0x0F0F0F);
        x.colour(2, 15, 0xFF00FF);
        x.control(0, 2, 0, 100, false);
        x.control(1, 3, -1, 0, true);
        x.control(2, 7, 255, 65535, true);
        x.feed(0x47494638, 0x39614000, 0x3F00000B, 0x0C3B0102, 0x03040506);
        return x;
    }

    /** No GLOBAL TABLE, no read yet, nothing written. */
    private static PictureReel ownTables() {
        PictureReel x = new PictureReel();
        x.begin(3, 3, 0, 7);
        x.frame(0, 0, 3, 3, 2, false);
        x.frame(2, 2, 1, 1, 256, true);
        x.paint(0, 0, 5, 1);
        x.paint(1, 0, 1, 255);
        x.feed(0x47494638, 0x37610100, 0x40000000, 0x003B0102, 0x03040506);
        return x;
    }

    /** As many FRAMES, bytes of the tape and of OUT as there may be; more than can be written. */
    private static PictureReel full() {
        PictureReel x = new PictureReel();
        Sizes.draw(x, 12000);
        x.write();
        x.take();
        x.read(12000);
        x.take();
        x.begin(2, 2, 256, 255);
        for (int f = 0; f < 24; f++) {
            x.frame(f % 2, 0, 1, 2, 256, f % 3 == 0);
            x.paint(f, 0, 2, 255 - f);
            x.colour(f, 255 - f, 1000 + f);
            x.control(f, f % 8, f % 2 - 1, f, f % 5 == 0);
        }
        return x;
    }

    private static PictureReel noFrames() {
        PictureReel x = new PictureReel();
        x.begin(64, 64, 4, 2);
        x.colour(-1, 2, 0x123456);
        x.write();
        x.take();
        return x;
    }

    private static PictureReel greatest() {
        PictureReel x = new PictureReel();
        x.begin(64, 64, 2, 1);
        x.write();
        x.take();
        x.frame(0, 0, 64, 64, 0, true);
        x.paint(0, 2000, 1000, 1);
        return x;
    }

    private static void refused(State s, Call call, long due) {
        PictureReel x = s.maker.get();
        String what = s.name + ": " + call.text;
        T.due(what, call.on(x), due);
        String other = s.before.difference(Snapshot.whole(x));
        T.due(what + " changes nothing, " + other, other.isEmpty(), true);
        T.due(what + ", then read", x.read(s.stream), s.answer);
        String later = s.behind.difference(Snapshot.whole(x));
        T.due(what + " leaves the tape's bytes, " + later, later.isEmpty(), true);
    }

    private static void refused(State s, List<Call> calls, long due) {
        for (Call call : calls) {
            refused(s, call, due);
        }
    }

    /** "-2, and nothing is done: n is below 0, or more than there are." */
    private static void refusesReads(State s) {
        List<Call> calls = new ArrayList<>();
        int many = s.maker.get().about(6);
        for (int n : new int[] {-1, LEAST, many + 1, many + 20, MOST, -many - 1}) {
            calls.add(Call.read(n));
        }
        refused(s, calls, -2);
    }

    /** "False, changing nothing, for others." */
    private static void refusesBegins(State s) {
        int[][] wrong = {{0, 1, 2, 0}, {65, 1, 2, 0}, {LEAST, 1, 2, 0}, {MOST, 1, 2, 0}, {1, 0, 2, 0},
            {1, 65, 2, 0}, {1, -1, 2, 0}, {1, MOST, 2, 0}, {1, 1, 1, 0}, {1, 1, 3, 0}, {1, 1, -2, 0},
            {1, 1, 257, 0}, {1, 1, 512, 0}, {1, 1, LEAST, 0}, {1, 1, 2, -1}, {1, 1, 2, 256},
            {1, 1, 2, LEAST}, {1, 1, 2, MOST}, {64, 64, 256, 256}, {65, 65, 257, 256}};
        List<Call> calls = new ArrayList<>();
        for (int[] w : wrong) {
            calls.add(Call.begin(w[0], w[1], w[2], w[3]));
        }
        refused(s, calls, 0);
    }

    private static int[] noFrames(PictureReel x) {
        return new int[] {x.about(5), x.about(5) + 1, -2, LEAST, MOST, 24, 25};
    }

    /** "False, changing nothing, if there is none such." */
    private static void refusesColours(State s) {
        List<Call> calls = new ArrayList<>();
        PictureReel x = s.maker.get();
        for (int frame : noFrames(x)) {
            calls.add(Call.colour(frame, 0, 1));
        }
        for (int frame = -1; frame < Math.min(x.about(5), 3); frame++) {
            int size = frame < 0 ? x.about(2) : x.frameOf(frame, 4);
            for (int k : new int[] {-1, LEAST, size, size + 1, MOST}) {
                calls.add(Call.colour(frame, k, 0x010101));
            }
            for (int rgb : new int[] {-1, LEAST, 0x1000000, MOST}) {
                calls.add(Call.colour(frame, 0, rgb));
            }
        }
        refused(s, calls, 0);
    }

    /** "NONE, changing nothing: there are 24; it isn't within the canvas, or has no places; it would have no TABLE." */
    private static void refusesFrames(State s) {
        PictureReel x = s.maker.get();
        int w = x.about(0);
        int h = x.about(1);
        int[][] wrong = {{-1, 0, 1, 1, 2}, {0, -1, 1, 1, 2}, {w, 0, 1, 1, 2}, {0, h, 1, 1, 2},
            {0, 0, w + 1, 1, 2}, {0, 0, 1, h + 1, 2}, {1, 0, w, 1, 2}, {0, 1, 1, h, 2}, {0, 0, 0, 1, 2},
            {0, 0, 1, 0, 2}, {0, 0, -1, 1, 2}, {0, 0, 1, -1, 2}, {MOST, 0, 1, 1, 2}, {1, 0, MOST, 1, 2},
            {MOST, MOST, MOST, MOST, 2}, {LEAST, 0, LEAST, 1, 2}, {LEAST, LEAST, LEAST + 1, LEAST + 1, 2},
            {0, 0, 65536, 65536, 2}, {0, 0, 1, 1, 1}, {0, 0, 1, 1, 3}, {0, 0, 1, 1, -2}, {0, 0, 1, 1, 257},
            {0, 0, 1, 1, 512}, {0, 0, 1, 1, LEAST}, {0, 0, 1, 1, MOST}};
        List<Call> calls = new ArrayList<>();
        for (int[] c : wrong) {
            calls.add(Call.frame(c[0], c[1], c[2], c[3], c[4]));
        }
        if (x.about(2) == 0) {
            calls.add(Call.frame(0, 0, 1, 1, 0));
        }
        if (x.about(5) == 24) {
            calls.add(Call.frame(0, 0, 1, 1, 0));
            calls.add(Call.frame(0, 0, 1, 1, 2));
            calls.add(Call.frame(0, 0, w, h, 256));
        }
        refused(s, calls, -1);
    }

    /** "False, changing nothing, for no such FRAME, or numbers that may not be (see I)." */
    private static void refusesControls(State s) {
        List<Call> calls = new ArrayList<>();
        PictureReel x = s.maker.get();
        for (int frame : noFrames(x)) {
            calls.add(Call.control(frame, 1, 1, 1));
        }
        calls.add(Call.control(-1, 1, 1, 1));
        int[][] wrong = {{-1, 1, 1}, {8, 1, 1}, {LEAST, 1, 1}, {MOST, 1, 1}, {1, -2, 1}, {1, 256, 1},
            {1, LEAST, 1}, {1, MOST, 1}, {1, 1, -1}, {1, 1, 65536}, {1, 1, LEAST}, {1, 1, MOST},
            {8, 256, 65536}, {-1, -2, -1}};
        for (int frame = 0; frame < Math.min(x.about(5), 2); frame++) {
            for (int[] w : wrong) {
                calls.add(Call.control(frame, w[0], w[1], w[2]));
            }
        }
        refused(s, calls, 0);
    }

    /** "False, changing nothing: no such FRAME, places, or INDEX in its TABLE." */
    private static void refusesPaints(State s) {
        List<Call> calls = new ArrayList<>();
        PictureReel x = s.maker.get();
        for (int frame : noFrames(x)) {
            calls.add(Call.paint(frame, 0, 1, 1));
            calls.add(Call.paint(frame, 0, 0, 0));
        }
        calls.add(Call.paint(-1, 0, 1, 1));
        for (int frame = 0; frame < Math.min(x.about(5), 3); frame++) {
            int n = x.frameOf(frame, 2) * x.frameOf(frame, 3);
            int[][] wrong = {{-1, 1}, {-1, 2}, {n, 1}, {0, n + 1}, {n - 1, 2}, {n + 1, 0}, {0, -1},
                {n + 1, -1}, {MOST, 1}, {MOST, MOST}, {1, MOST}, {LEAST, LEAST}, {LEAST, LEAST + 1},
                {LEAST, 0}, {MOST, 0}, {0, LEAST}, {-n, n}};
            for (int[] w : wrong) {
                calls.add(Call.paint(frame, w[0], w[1], 1));
            }
            int size = x.frameOf(frame, 4) == 0 ? x.about(2) : x.frameOf(frame, 4);
            for (int index : new int[] {-1, size, size + 1, 256, LEAST, MOST}) {
                calls.add(Call.paint(frame, 0, n, index));
                calls.add(Call.paint(frame, 0, 0, index));
            }
        }
        refused(s, calls, 0);
    }

    /** Questions of what there is not. */
    private static void refusesQuestions(State s) {
        List<Call> calls = new ArrayList<>();
        PictureReel x = s.maker.get();
        for (int number : new int[] {-1, LEAST, MOST}) {
            calls.add(Call.fault(number));
            calls.add(Call.out(number));
            calls.add(Call.about(number));
            calls.add(Call.frameOf(0, number));
            calls.add(Call.colourOf(-1, number));
            calls.add(Call.colourOf(0, number));
            calls.add(Call.index(0, number));
        }
        calls.add(Call.fault(2));
        calls.add(Call.out(x.about(7)));
        calls.add(Call.about(8));
        calls.add(Call.frameOf(0, 10));
        calls.add(Call.colourOf(-1, x.about(2)));
        for (int frame : noFrames(x)) {
            calls.add(Call.frameOf(frame, 0));
            calls.add(Call.colourOf(frame, 0));
            calls.add(Call.index(frame, 0));
            refused(s, Call.canvas(frame, 0, 0), -2);
        }
        refused(s, calls, -1);
        int[][] places = {{-1, 0}, {0, -1}, {x.about(0), 0}, {0, x.about(1)}, {MOST, 0}, {0, LEAST}};
        for (int[] p : places) {
            refused(s, Call.canvas(0, p[0], p[1]), -2);
            refused(s, Call.canvas(-1, p[0], p[1]), -2);
        }
    }

    /** "NONE, and none come" (feed); "NONE, and OUT stays" (write) */
    private static void refusesWhatIsOverTwelveThousand(State s) {
        refused(s, Call.feed(1, 2, 3, 4, 5), -1);
        refused(s, Call.feed(0, 0, 0, 0, 0), -1);
        refused(s, Call.feed(MOST, LEAST, -1, MOST, LEAST), -1);
        refused(s, Call.write(), -1);
        refused(s, Call.take(), 12000);
    }
}
