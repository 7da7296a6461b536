import java.util.ArrayList;
import java.util.List;

/**
 * All that can be asked of an object, as a row of texts. The class keeps no count of its calls, so
 * that a snapshot may ask more than the 512 times for which the document speaks.
 */
final class Snapshot {
    private final List<String> all = new ArrayList<>();

    private Snapshot() {
    }

    /** The picture alone: what a read() with a FAULT and a write() leave. */
    static Snapshot picture(PictureReel x) {
        Snapshot s = new Snapshot();
        for (int what = 0; what <= 5; what++) {
            s.note("about(" + what + ")", x.about(what));
        }
        s.colours(x, -1);
        for (int f = 0; f <= x.about(5); f++) {
            s.frame(x, f);
        }
        return s;
    }

    static Snapshot out(PictureReel x) {
        Snapshot s = new Snapshot();
        s.note("about(7)", x.about(7));
        for (int i = 0; i <= x.about(7); i++) {
            s.note("out(" + i + ")", x.out(i));
        }
        return s;
    }

    /** All but the tape's bytes, which can only be read. */
    static Snapshot whole(PictureReel x) {
        Snapshot s = picture(x);
        s.all.addAll(out(x).all);
        s.note("about(6)", x.about(6));
        s.note("fault(0)", x.fault(0));
        s.note("fault(1)", x.fault(1));
        return s;
    }

    private void note(String call, int answer) {
        all.add(call + " = " + answer);
    }

    private void colours(PictureReel x, int frame) {
        for (int k = 0; k <= 256; k++) {
            note("colourOf(" + frame + ", " + k + ")", x.colourOf(frame, k));
        }
    }

    private void frame(PictureReel x, int f) {
        for (int what = 0; what <= 9; what++) {
            note("frameOf(" + f + ", " + what + ")", x.frameOf(f, what));
        }
        colours(x, f);
        for (int i = 0; i <= x.frameOf(f, 2) * x.frameOf(f, 3); i++) {
            note("index(" + f + ", " + i + ")", x.index(f, i));
        }
        for (int i = 0; i < x.about(0) * x.about(1); i++) {
            int px = i % x.about(0);
            int py = i / x.about(0);
            note("canvas(" + f + ", " + px + ", " + py + ")", x.canvas(f, px, py));
        }
    }

    /** The first answers that are not the same, as a text; an empty one where all are. */
    String difference(Snapshot other) {
        if (all.size() != other.all.size()) {
            return all.size() + " answers, then " + other.all.size();
        }
        for (int i = 0; i < all.size(); i++) {
            if (!all.get(i).equals(other.all.get(i))) {
                return all.get(i) + ", then " + other.all.get(i);
            }
        }
        return "";
    }
}
