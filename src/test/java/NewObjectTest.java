/** Promise 1: a new object; and what every call answers on it. */
public final class NewObjectTest {
    public static void main(String[] args) {
        Checks t = new Checks("NewObjectTest");
        PictureReel x = new PictureReel();
        int[] about = {1, 1, 0, 0, 0, 0, 0, 0};
        for (int what = 0; what < about.length; what++) {
            t.due("about(" + what + ")", x.about(what), about[what]);
        }
        t.due("about(-1)", x.about(-1), -1);
        t.due("about(8)", x.about(8), -1);
        t.due("about(least)", x.about(Integer.MIN_VALUE), -1);
        t.due("about(most)", x.about(Integer.MAX_VALUE), -1);
        t.due("out(0)", x.out(0), -1);
        t.due("take()", x.take(), 0);
        t.due("fault(0) ahead of any read", x.fault(0), -1);
        t.due("fault(1) ahead of any read", x.fault(1), -1);
        t.due("fault(2) ahead of any read", x.fault(2), -1);
        t.due("frameOf(0, 0)", x.frameOf(0, 0), -1);
        t.due("colourOf(NONE, 0)", x.colourOf(-1, 0), -1);
        t.due("colour(NONE, 0, 0)", x.colour(-1, 0, 0), false);
        t.due("index(0, 0)", x.index(0, 0), -1);
        t.due("canvas(0, 0, 0)", x.canvas(0, 0, 0), -2);
        t.due("control(0, ..)", x.control(0, 0, -1, 0, false), false);
        t.due("paint(0, 0, 0, 0)", x.paint(0, 0, 0, 0), false);
        t.due("frame without any table", x.frame(0, 0, 1, 1, 0, false), -1);
        t.due("frame too wide", x.frame(0, 0, 2, 1, 2, false), -1);
        t.due("frame with a table of its own", x.frame(0, 0, 1, 1, 2, false), 0);
        twoObjectsShareNothing(t);
        t.finish();
    }

    private static void twoObjectsShareNothing(Checks t) {
        PictureReel a = new PictureReel();
        PictureReel b = new PictureReel();
        a.begin(2, 2, 2, 0);
        a.frame(0, 0, 1, 1, 0, false);
        a.write();
        a.feed(1, 2, 3, 4, 5);
        a.read(0);
        a.feed(1, 2, 3, 4, 5);
        for (int what = 0; what < 8; what++) {
            t.due("another's about(" + what + ")", b.about(what), what < 2 ? 1 : 0);
        }
        t.due("another's fault(0)", b.fault(0), -1);
    }
}
