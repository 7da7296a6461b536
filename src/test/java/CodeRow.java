import java.util.ArrayList;
import java.util.List;

/** A row of codes that keeps count of SIZE and NEXT as a reader does, and of the INDEXES told. */
final class CodeRow {
    private final int least;
    private final List<Integer> codes = new ArrayList<>();
    private int size;
    private int next;
    private boolean ahead;

    /** A row that begins with CLEAR. */
    CodeRow(int least) {
        this.least = least;
        size = least + 1;
        clear();
    }

    int size() {
        return size;
    }

    int next() {
        return next;
    }

    CodeRow clear() {
        raw(1 << least, size);
        size = least + 1;
        next = (1 << least) + 2;
        ahead = false;
        return this;
    }

    CodeRow put(int... more) {
        for (int code : more) {
            raw(code, size);
            if (ahead && next < 4096) {
                next++;
                size = next == 1 << size && size < 12 ? size + 1 : size;
            }
            ahead = true;
        }
        return this;
    }

    /** So many codes of one INDEX each, in an order in which no two neighbours are the same. */
    CodeRow singles(int many) {
        for (int i = 0; i < many; i++) {
            put(i % 3 % (1 << least));
        }
        return this;
    }

    CodeRow stop() {
        return raw((1 << least) + 1, size);
    }

    /** A code of any size, which changes no count. */
    CodeRow raw(int code, int bits) {
        codes.add(code);
        codes.add(bits);
        return this;
    }

    int bits() {
        int sum = 0;
        for (int i = 1; i < codes.size(); i += 2) {
            sum += codes.get(i);
        }
        return sum;
    }

    /** The bits that are free in the last byte. */
    int free() {
        return (8 - bits() % 8) % 8;
    }

    /** Bits of 1 up to the end of the last byte. */
    CodeRow fill() {
        int free = free();
        return raw((1 << free) - 1, free);
    }

    Bytes bytes() {
        return Bytes.codes(codes.stream().mapToInt(Integer::intValue).toArray());
    }
}
