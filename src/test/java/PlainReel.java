import java.util.ArrayList;
import java.util.HashMap;
import java.util.List;
import java.util.Map;

/**
 * The document told a second time, as slowly and plainly as can be and in other ways than the
 * program's (whole canvases, whole rows of INDEXES, faults thrown), for tests to compare with.
 */
final class PlainReel {
    static final int NONE = -1;

    private static final class Fault extends RuntimeException {
        private static final long serialVersionUID = 1L;
        final int kind;
        final int place;

        Fault(int kind, int place) {
            this.kind = kind;
            this.place = place;
        }
    }

    private static final class Shot {
        int left, top, width, height, disposal, delay;
        int transparent = NONE;
        boolean input, interlaced;
        int[] local;
        int[] indexes;
    }

    private static final class Film {
        int width = 1, height = 1, background, aspect;
        int[] global;
        final List<Shot> shots = new ArrayList<>();

        int[] table(Shot s) {
            return s.local != null ? s.local : global;
        }
    }

    private Film film = new Film();
    private List<Integer> tape = new ArrayList<>();
    private List<Integer> out = new ArrayList<>();
    private int kind = NONE;
    private int place = NONE;

    int feed(int a, int b, int c, int d, int e) {
        if (tape.size() + 20 > 12000) {
            return NONE;
        }
        for (int word : new int[] {a, b, c, d, e}) {
            for (int shift = 24; shift >= 0; shift -= 8) {
                tape.add(word >>> shift & 255);
            }
        }
        return tape.size();
    }

    int take() {
        tape = new ArrayList<>(out);
        return tape.size();
    }

    int fault(int what) {
        return what == 0 ? kind : what == 1 ? place : NONE;
    }

    // reading

    private List<Integer> stream;
    private int at;

    int read(int n) {
        if (n < 0 || n > tape.size()) {
            return -2;
        }
        stream = tape.subList(0, n);
        at = 0;
        int answer;
        try {
            film = whole();
            kind = 0;
            place = NONE;
            answer = film.shots.size();
        } catch (Fault fault) {
            kind = fault.kind;
            place = fault.place;
            answer = NONE;
        }
        tape = new ArrayList<>();
        return answer;
    }

    private int one() {
        if (at == stream.size()) {
            throw new Fault(2, at);
        }
        return stream.get(at++);
    }

    private int two() {
        int low = one();
        return low + 256 * one();
    }

    private int[] table(int mark) {
        if (mark < 128) {
            return null;
        }
        int[] colours = new int[2 << mark % 8];
        for (int k = 0; k < colours.length; k++) {
            int red = one();
            int green = one();
            colours[k] = (red * 256 + green) * 256 + one();
        }
        return colours;
    }

    private List<Integer> rows() {
        List<Integer> all = new ArrayList<>();
        for (int many = one(); many != 0; many = one()) {
            for (int i = 0; i < many; i++) {
                all.add(one());
            }
        }
        return all;
    }

    private void need(boolean good, int faultKind, int faultPlace) {
        if (!good) {
            throw new Fault(faultKind, faultPlace);
        }
    }

    private Film whole() {
        String begun = "";
        while (begun.length() < 6) {
            begun += (char) one();
            need("GIF87a".startsWith(begun) || "GIF89a".startsWith(begun), 1, 0);
        }
        Film f = new Film();
        f.width = two();
        need(f.width >= 1 && f.width <= 64, 3, 6);
        f.height = two();
        need(f.height >= 1 && f.height <= 64, 3, 8);
        int mark = one();
        f.background = one();
        f.aspect = one();
        f.global = table(mark);
        Shot control = null;
        while (true) {
            int here = at;
            int b = one();
            if (b == 0x2C) {
                image(f, control == null ? new Shot() : control, here);
                control = null;
            } else if (b == 0x21 && begun.equals("GIF89a")) {
                control = extension(control);
            } else {
                need(b == 0x3B && control == null, 4, here);
                need(at == stream.size(), 10, at);
                return f;
            }
        }
    }

    private Shot extension(Shot control) {
        int here = at;
        int label = one();
        need(label == 1 || control == null && (label == 0xF9 || label >= 0xFE), 4, here);
        if (label == 0xFE) {
            rows();
            return null;
        }
        int lengthPlace = at;
        int length = one();
        need(length == (label == 1 ? 12 : label == 0xFF ? 11 : 4), 5, lengthPlace);
        if (label != 0xF9) {
            for (int i = 0; i < length; i++) {
                one();
            }
            rows();
            return null;
        }
        Shot s = new Shot();
        int bits = one();
        s.delay = two();
        int last = one();
        int zeroPlace = at;
        need(one() == 0, 5, zeroPlace);
        s.disposal = bits / 4 % 8;
        s.input = bits / 2 % 2 == 1;
        s.transparent = bits % 2 == 1 ? last : NONE;
        return s;
    }

    private void image(Film f, Shot s, int here) {
        s.left = two();
        s.top = two();
        s.width = two();
        s.height = two();
        need(f.shots.size() < 24 && fits(f, s.left, s.top, s.width, s.height), 6, here);
        int mark = one();
        need(mark >= 128 || f.global != null, 7, here);
        s.interlaced = mark / 64 % 2 == 1;
        s.local = table(mark);
        int leastPlace = at;
        int least = one();
        need(least >= 2 && least <= 8, 8, leastPlace);
        List<Integer> content = rows();
        List<Integer> got = decoded(content, least);
        need(got != null && got.size() == s.width * s.height, 9, leastPlace);
        s.indexes = new int[got.size()];
        int[] order = order(s);
        for (int i = 0; i < order.length; i++) {
            need(got.get(i) < f.table(s).length, 9, leastPlace);
            s.indexes[order[i]] = got.get(i);
        }
        f.shots.add(s);
    }

    private static boolean fits(Film f, long left, long top, long width, long height) {
        return left >= 0 && top >= 0 && width >= 1 && height >= 1
                && left + width <= f.width && top + height <= f.height;
    }

    /** The places of a shot in the order in which a stream tells them. */
    private static int[] order(Shot s) {
        List<Integer> lines = new ArrayList<>();
        int[][] passes = s.interlaced ? new int[][] {{0, 8}, {4, 8}, {2, 4}, {1, 2}}
                : new int[][] {{0, 1}};
        for (int[] pass : passes) {
            for (int y = pass[0]; y < s.height; y += pass[1]) {
                lines.add(y);
            }
        }
        int[] order = new int[s.width * s.height];
        int i = 0;
        for (int y : lines) {
            for (int x = 0; x < s.width; x++) {
                order[i++] = y * s.width + x;
            }
        }
        return order;
    }

    /** The INDEXES of codes; null where they can't be. */
    private static List<Integer> decoded(List<Integer> content, int least) {
        StringBuilder bitRow = new StringBuilder();
        for (int b : content) {
            bitRow.append(new StringBuilder(Integer.toBinaryString(256 + b).substring(1)).reverse());
        }
        int clear = 1 << least;
        List<Integer> got = new ArrayList<>();
        Map<Integer, String> rows = new HashMap<>();
        int size = least + 1;
        int next = 0;
        String ahead = null;
        boolean begun = false;
        int from = 0;
        while (from + size <= bitRow.length()) {
            String bits = bitRow.substring(from, from + size);
            int code = Integer.parseInt(new StringBuilder(bits).reverse().toString(), 2);
            from += size;
            if (code == clear) {
                begun = true;
                rows.clear();
                for (int k = 0; k < clear; k++) {
                    rows.put(k, String.valueOf((char) k));
                }
                size = least + 1;
                next = clear + 2;
                ahead = null;
                continue;
            }
            if (!begun) {
                return null;
            }
            if (code == clear + 1) {
                return bitRow.length() - from < 8 ? got : null;
            }
            String row = rows.get(code);
            if (code == next && ahead != null && next < 4096) {
                row = ahead + ahead.charAt(0);
            }
            if (row == null || got.size() > 4096) {
                return null;
            }
            for (char c : row.toCharArray()) {
                got.add((int) c);
            }
            if (ahead != null && next < 4096) {
                rows.put(next, ahead + row.charAt(0));
                next++;
                if (next == 1 << size && size < 12) {
                    size++;
                }
            }
            ahead = row;
        }
        return null;
    }

    // drawing

    private static boolean tableSize(int n) {
        for (int size = 2; size <= 256; size *= 2) {
            if (n == size) {
                return true;
            }
        }
        return n == 0;
    }

    boolean begin(int width, int height, int colours, int background) {
        if (width < 1 || width > 64 || height < 1 || height > 64 || !tableSize(colours)
                || background < 0 || background > 255) {
            return false;
        }
        film = new Film();
        film.width = width;
        film.height = height;
        film.background = background;
        film.global = colours == 0 ? null : new int[colours];
        return true;
    }

    private Shot shot(int frame) {
        return frame < 0 || frame >= film.shots.size() ? null : film.shots.get(frame);
    }

    private int[] ownTable(int frame) {
        return frame == NONE ? film.global : shot(frame) == null ? null : shot(frame).local;
    }

    boolean colour(int frame, int k, int rgb) {
        int[] t = ownTable(frame);
        if (t == null || k < 0 || k >= t.length || rgb < 0 || rgb > 0xFFFFFF) {
            return false;
        }
        t[k] = rgb;
        return true;
    }

    int frame(int left, int top, int width, int height, int colours, boolean interlaced) {
        if (film.shots.size() == 24 || !fits(film, left, top, width, height)
                || !tableSize(colours) || colours == 0 && film.global == null) {
            return NONE;
        }
        Shot s = new Shot();
        s.left = left;
        s.top = top;
        s.width = width;
        s.height = height;
        s.local = colours == 0 ? null : new int[colours];
        s.interlaced = interlaced;
        s.indexes = new int[width * height];
        film.shots.add(s);
        return film.shots.size() - 1;
    }

    boolean control(int frame, int disposal, int transparent, int delay, boolean input) {
        Shot s = shot(frame);
        if (s == null || disposal < 0 || disposal > 7 || transparent < -1 || transparent > 255
                || delay < 0 || delay > 65535) {
            return false;
        }
        s.disposal = disposal;
        s.transparent = transparent;
        s.delay = delay;
        s.input = input;
        return true;
    }

    boolean paint(int frame, int i, int many, int index) {
        Shot s = shot(frame);
        if (s == null || i < 0 || many < 0 || (long) i + many > s.indexes.length
                || index < 0 || index >= film.table(s).length) {
            return false;
        }
        for (int k = i; k < i + many; k++) {
            s.indexes[k] = index;
        }
        return true;
    }

    // writing

    int write() {
        Bytes made = new Bytes().add("GIF89a").two(film.width, film.height);
        made.add(mark(film.global) + 0x70, film.background, film.aspect);
        if (film.global != null) {
            made.colours(film.global);
        }
        for (Shot s : film.shots) {
            int bits = s.disposal * 4 + (s.input ? 2 : 0) + (s.transparent == NONE ? 0 : 1);
            made.control(bits, s.delay, Math.max(s.transparent, 0));
            made.add(0x2C).two(s.left, s.top, s.width, s.height);
            made.add(mark(s.local) + (s.interlaced ? 64 : 0));
            if (s.local != null) {
                made.colours(s.local);
            }
            int least = 2;
            while (1 << least < film.table(s).length) {
                least++;
            }
            made.add(least).rows(encoded(s, least), 255);
        }
        made.add(0x3B);
        if (made.size() > 12000) {
            return NONE;
        }
        out = new ArrayList<>();
        for (int i = 0; i < made.size(); i++) {
            out.add(made.at(i));
        }
        return out.size();
    }

    private static int mark(int[] table) {
        return table == null ? 0 : 128 + Integer.toBinaryString(table.length).length() - 2;
    }

    private static Bytes encoded(Shot s, int least) {
        StringBuilder text = new StringBuilder();
        for (int p : order(s)) {
            text.append((char) s.indexes[p]);
        }
        return Bytes.codes(codesOf(text.toString(), least));
    }

    /** The codes of a row of INDEXES, each followed by its size. */
    static int[] codesOf(String text, int least) {
        List<Integer> codes = new ArrayList<>();
        int clear = 1 << least;
        Map<String, Integer> known = new HashMap<>();
        int size = least + 1;
        int next = 4096;
        String ahead = null;
        int from = 0;
        while (from < text.length()) {
            if (next == 4096) {
                codes.add(clear);
                codes.add(size);
                known.clear();
                for (int k = 0; k < clear; k++) {
                    known.put(String.valueOf((char) k), k);
                }
                size = least + 1;
                next = clear + 2;
                ahead = null;
            }
            String fresh = ahead == null ? "" : ahead + ahead.charAt(0);
            String row = text.substring(from, from + 1);
            for (int to = from + 2; to <= text.length(); to++) {
                if (!known.containsKey(text.substring(from, to))) {
                    break;
                }
                row = text.substring(from, to);
            }
            boolean isFresh = fresh.length() > row.length() && text.startsWith(fresh, from);
            if (isFresh) {
                row = fresh;
            }
            codes.add(isFresh ? next : known.get(row));
            codes.add(size);
            if (ahead != null) {
                known.put(ahead + row.charAt(0), next);
                next++;
                if (next == 1 << size && size < 12) {
                    size++;
                }
            }
            ahead = row;
            from += row.length();
        }
        codes.add(clear + 1);
        codes.add(size);
        return codes.stream().mapToInt(Integer::intValue).toArray();
    }

    // answers

    int out(int i) {
        return i < 0 || i >= out.size() ? NONE : out.get(i);
    }

    int about(int what) {
        int[] all = {film.width, film.height, film.global == null ? 0 : film.global.length,
            film.background, film.aspect, film.shots.size(), tape.size(), out.size()};
        return what < 0 || what >= all.length ? NONE : all[what];
    }

    int frameOf(int frame, int what) {
        Shot s = shot(frame);
        if (s == null) {
            return NONE;
        }
        int[] all = {s.left, s.top, s.width, s.height, s.local == null ? 0 : s.local.length,
            s.interlaced ? 1 : 0, s.disposal, s.transparent, s.delay, s.input ? 1 : 0};
        return what < 0 || what >= all.length ? NONE : all[what];
    }

    int colourOf(int frame, int k) {
        int[] t = ownTable(frame);
        return t == null || k < 0 || k >= t.length ? NONE : t[k];
    }

    int index(int frame, int i) {
        Shot s = shot(frame);
        return s == null || i < 0 || i >= s.indexes.length ? NONE : s.indexes[i];
    }

    int canvas(int frame, int x, int y) {
        if (shot(frame) == null || x < 0 || x >= film.width || y < 0 || y >= film.height) {
            return -2;
        }
        int back = film.global == null || film.background >= film.global.length ? -1
                : film.global[film.background];
        int[][] found = new int[film.height][film.width];
        for (int[] line : found) {
            java.util.Arrays.fill(line, back);
        }
        for (int f = 0; ; f++) {
            Shot s = film.shots.get(f);
            int[][] canvas = copy(found);
            int[][] cleared = copy(found);
            for (int i = 0; i < s.indexes.length; i++) {
                int px = s.left + i % s.width;
                int py = s.top + i / s.width;
                cleared[py][px] = back;
                if (s.indexes[i] != s.transparent) {
                    canvas[py][px] = film.table(s)[s.indexes[i]];
                }
            }
            if (f == frame) {
                return canvas[y][x];
            }
            found = s.disposal == 2 ? cleared : s.disposal == 3 ? found : canvas;
        }
    }

    private static int[][] copy(int[][] lines) {
        int[][] other = new int[lines.length][];
        for (int y = 0; y < lines.length; y++) {
            other[y] = lines[y].clone();
        }
        return other;
    }
}
