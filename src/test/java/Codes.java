/** A compressed row whose codes are put by hand, each with its width. */
final class Codes {
    private final StringBuilder row = new StringBuilder();
    private final StringBuilder bits = new StringBuilder();

    Codes(int greatestWidth) {
        row.append((char) 31).append((char) 157).append((char) (128 + greatestWidth));
    }

    Codes put(int code, int width) {
        for (int i = 0; i < width; i++) {
            bits.append(code >> i & 1);
        }
        return this;
    }

    /** The codes that stand for what stands there from start to end, one for each byte. */
    Codes putEach(String bytes, int start, int end, int width) {
        for (int i = start; i < Math.min(end, bytes.length()); i++) {
            put(bytes.charAt(i), width);
        }
        return this;
    }

    /** CLEAR, and what fills up to eight codes if it is the first one of them. */
    Codes putClear(int width) {
        put(256, width);
        for (int i = 0; i < 7; i++) {
            put(0, width);
        }
        return this;
    }

    String row() {
        StringBuilder all = new StringBuilder(row);
        for (int at = 0; at < bits.length(); at += 8) {
            int value = 0;
            for (int i = at; i < Math.min(at + 8, bits.length()); i++) {
                value |= (bits.charAt(i) - '0') << i - at;
            }
            all.append((char) value);
        }
        return all.toString();
    }
}
