import java.util.Arrays;
import java.util.function.ToLongFunction;

/** A call with its text, to be made on any object; a boolean counts 1 or 0. */
final class Call {
    final String text;
    private final ToLongFunction<PictureReel> way;

    private Call(String name, ToLongFunction<PictureReel> way, Object... arguments) {
        this.text = name + Arrays.toString(arguments);
        this.way = way;
    }

    long on(PictureReel x) {
        return way.applyAsLong(x);
    }

    private static long number(boolean answer) {
        return answer ? 1 : 0;
    }

    static Call feed(int a, int b, int c, int d, int e) {
        return new Call("feed", x -> x.feed(a, b, c, d, e), a, b, c, d, e);
    }

    static Call take() {
        return new Call("take", x -> x.take());
    }

    static Call read(int n) {
        return new Call("read", x -> x.read(n), n);
    }

    static Call fault(int what) {
        return new Call("fault", x -> x.fault(what), what);
    }

    static Call begin(int width, int height, int colours, int background) {
        return new Call("begin", x -> number(x.begin(width, height, colours, background)),
                width, height, colours, background);
    }

    static Call colour(int frame, int k, int rgb) {
        return new Call("colour", x -> number(x.colour(frame, k, rgb)), frame, k, rgb);
    }

    static Call frame(int left, int top, int width, int height, int colours) {
        return new Call("frame", x -> x.frame(left, top, width, height, colours, true),
                left, top, width, height, colours);
    }

    static Call control(int frame, int disposal, int transparent, int delay) {
        return new Call("control", x -> number(x.control(frame, disposal, transparent, delay, true)),
                frame, disposal, transparent, delay);
    }

    static Call paint(int frame, int i, int many, int index) {
        return new Call("paint", x -> number(x.paint(frame, i, many, index)), frame, i, many, index);
    }

    static Call write() {
        return new Call("write", x -> x.write());
    }

    static Call out(int i) {
        return new Call("out", x -> x.out(i), i);
    }

    static Call about(int what) {
        return new Call("about", x -> x.about(what), what);
    }

    static Call frameOf(int frame, int what) {
        return new Call("frameOf", x -> x.frameOf(frame, what), frame, what);
    }

    static Call colourOf(int frame, int k) {
        return new Call("colourOf", x -> x.colourOf(frame, k), frame, k);
    }

    static Call index(int frame, int i) {
        return new Call("index", x -> x.index(frame, i), frame, i);
    }

    static Call canvas(int frame, int px, int py) {
        return new Call("canvas", x -> x.canvas(frame, px, py), frame, px, py);
    }
}
