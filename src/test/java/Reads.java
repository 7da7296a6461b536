/** Reads streams on an object that has a picture, and looks at what becomes of it. */
final class Reads {
    private static final Snapshot PICTURE = Snapshot.picture(used());
    private static final Snapshot OUT = Snapshot.out(used());

    private final Checks t;
    private PictureReel kept = used();

    Reads(Checks t) {
        this.t = t;
    }

    /** An object with a picture that was itself read, and an OUT. */
    private static PictureReel used() {
        PictureReel x = new PictureReel();
        x.begin(3, 2, 4, 1);
        x.colour(-1, 1, 0x123456);
        x.frame(1, 0, 2, 2, 2, true);
        x.paint(0, 1, 2, 1);
        x.control(0, 3, 1, 77, true);
        x.write();
        x.take();
        x.read(x.about(6));
        return x;
    }

    /**
     * A stream that has a FAULT: the picture and OUT stay, the tape is empty then. Since they must
     * stay, one object serves for all such streams, until it is seen to be another.
     */
    void refused(String what, Bytes s, int kind, int place) {
        PictureReel x = kept;
        t.due(what + ": read", s.readBy(x), -1);
        t.due(what + ": fault(0)", x.fault(0), kind);
        t.due(what + ": fault(1)", x.fault(1), place);
        t.due(what + ": fault(2)", x.fault(2), -1);
        t.due(what + ": the tape", x.about(6), 0);
        String other = PICTURE.difference(Snapshot.picture(x)) + OUT.difference(Snapshot.out(x));
        t.due(what + ": all else stays, " + other, other.isEmpty(), true);
        if (!t.isClean()) {
            kept = used();
        }
    }

    /** A stream of so many FRAMES: it becomes the picture of the object that is answered. */
    PictureReel taken(String what, Bytes s, int frames) {
        PictureReel x = used();
        t.due(what + ": read", s.readBy(x), frames);
        t.due(what + ": fault(0)", x.fault(0), 0);
        t.due(what + ": fault(1)", x.fault(1), -1);
        t.due(what + ": fault(2)", x.fault(2), -1);
        t.due(what + ": FRAMES", x.about(5), frames);
        t.due(what + ": the tape", x.about(6), 0);
        t.due(what + ": OUT stays", OUT.difference(Snapshot.out(x)).isEmpty(), true);
        return x;
    }
}
