import java.util.ArrayList;
import java.util.List;

/** Puts streams together byte by byte, and carries them to and from a PictureReel. */
final class Bytes {
    private final List<Integer> all = new ArrayList<>();

    Bytes add(int... values) {
        for (int value : values) {
            all.add(value & 255);
        }
        return this;
    }

    Bytes add(String text) {
        for (char c : text.toCharArray()) {
            all.add((int) c);
        }
        return this;
    }

    Bytes two(int... values) {
        for (int value : values) {
            add(value, value >> 8);
        }
        return this;
    }

    Bytes colours(int... rgbs) {
        for (int rgb : rgbs) {
            add(rgb >> 16, rgb >> 8, rgb);
        }
        return this;
    }

    Bytes set(int place, int value) {
        all.set(place, value & 255);
        return this;
    }

    int at(int place) {
        return all.get(place);
    }

    int size() {
        return all.size();
    }

    Bytes first(int n) {
        Bytes part = new Bytes();
        part.all.addAll(all.subList(0, n));
        return part;
    }

    Bytes add(Bytes other) {
        all.addAll(other.all);
        return this;
    }

    /** Rows of at most so many bytes, and the 0 behind them. */
    Bytes rows(Bytes content, int most) {
        for (int from = 0; from < content.size(); from += most) {
            int many = Math.min(most, content.size() - from);
            add(many);
            for (int i = 0; i < many; i++) {
                add(content.at(from + i));
            }
        }
        return add(0);
    }

    /** Codes, each followed by its size in bits, lowest bits first. */
    static Bytes codes(int... codesAndSizes) {
        Bytes packed = new Bytes();
        long held = 0;
        int bits = 0;
        for (int i = 0; i < codesAndSizes.length; i += 2) {
            held |= (long) codesAndSizes[i] << bits;
            bits += codesAndSizes[i + 1];
            while (bits >= 8) {
                packed.add((int) held);
                held >>= 8;
                bits -= 8;
            }
        }
        if (bits > 0) {
            packed.add((int) held);
        }
        return packed;
    }

    /** A screen of GIF89a with a GLOBAL TABLE of these colours (or none). */
    static Bytes screen(int width, int height, int background, int... rgbs) {
        int mark = rgbs.length == 0 ? 0 : 0x80 | Integer.numberOfTrailingZeros(rgbs.length) - 1;
        return new Bytes().add("GIF89a").two(width, height).add(mark, background, 0).colours(rgbs);
    }

    Bytes control(int bits, int delay, int transparent) {
        return add(0x21, 0xF9, 4, bits).two(delay).add(transparent, 0);
    }

    /** An IMAGE without LOCAL TABLE, LEAST 2. */
    Bytes image(int left, int top, int width, int height, Bytes codes) {
        return add(0x2C).two(left, top, width, height).add(0, 2).rows(codes, 255);
    }

    /** The codes of a single place at LEAST 2. */
    static Bytes single(int index) {
        return codes(4, 3, index, 3, 5, 3);
    }

    int word(int from) {
        int word = 0;
        for (int i = from; i < from + 4; i++) {
            word = word << 8 | (i < all.size() ? all.get(i) : 0);
        }
        return word;
    }

    /** Feeds all, with bytes 0 behind the last one where it is not the twentieth. */
    void feedTo(PictureReel reel) {
        for (int from = 0; from < all.size(); from += 20) {
            reel.feed(word(from), word(from + 4), word(from + 8), word(from + 12), word(from + 16));
        }
    }

    int readBy(PictureReel reel) {
        feedTo(reel);
        return reel.read(all.size());
    }

    static Bytes outOf(PictureReel reel) {
        Bytes out = new Bytes();
        for (int i = 0; i < reel.about(7); i++) {
            out.add(reel.out(i));
        }
        return out;
    }

    boolean same(Bytes other) {
        return all.equals(other.all);
    }

    @Override
    public String toString() {
        return all.toString();
    }
}
