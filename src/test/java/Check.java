import java.nio.charset.StandardCharsets;
import java.util.Arrays;

/** What the tests of the project have in common. */
final class Check {
    private static final int MOST_SHOWN = 400;

    private static int calls = 0;
    private static int wrong = 0;

    private Check() {}

    /** A call that may throw. */
    interface Call {
        long answer();
    }

    /** A call without an answer. */
    interface Deed {
        void run();
    }

    static void due(String what, long got, long want) {
        calls++;
        if (got != want) {
            wrong++;
            System.out.println(shown(what) + " answered " + got + ", due is " + want);
        }
    }

    /** The call throws just this class of exception. */
    static void fails(String what, Class<? extends RuntimeException> want, Deed deed) {
        calls++;
        String got = "nothing";
        try {
            deed.run();
        } catch (RuntimeException e) {
            got = e.getClass().getSimpleName();
        }
        if (!got.equals(want.getSimpleName())) {
            wrong++;
            System.out.println(shown(what) + " threw " + got + ", due is " + want.getSimpleName());
        }
    }

    /** Letters that a line can show, and not too many of them. */
    private static String shown(String text) {
        StringBuilder letters = new StringBuilder();
        for (int i = 0; i < text.length() && letters.length() < MOST_SHOWN; i++) {
            char letter = text.charAt(i);
            boolean plain = letter >= 32 && letter < 127;
            letters.append(plain ? "" + letter : String.format("\\%03o", (int) letter));
        }
        return letters.length() < MOST_SHOWN ? letters.toString()
                : letters + ".. (" + text.length() + ")";
    }

    static void refused(String what, Deed deed) {
        fails(what, IllegalArgumentException.class, deed);
    }

    static void noIndex(String what, Deed deed) {
        fails(what, IndexOutOfBoundsException.class, deed);
    }

    static void noState(String what, Deed deed) {
        fails(what, IllegalStateException.class, deed);
    }

    static void tooMuch(String what, Deed deed) {
        fails(what, UnsupportedOperationException.class, deed);
    }

    static byte[] bytes(String letters) {
        return letters.getBytes(StandardCharsets.ISO_8859_1);
    }

    static String letters(byte[] bytes) {
        return new String(bytes, StandardCharsets.ISO_8859_1);
    }

    /** Types a row; what stands there already is repeated where that takes fewer calls. */
    static void type(Chain chain, String letters) {
        byte[] row = bytes(letters);
        int at = 0;
        while (at < row.length) {
            int n = repeated(row, at);
            if (n > 8) {
                chain.again(n);
            } else {
                n = Math.min(8, row.length - at);
                chain.type(word(row, at, n), n);
            }
            at += n;
        }
    }

    /** How many bytes before a place stand behind it once more. */
    private static int repeated(byte[] row, int at) {
        int n = Math.min(at, row.length - at);
        while (n > 8 && !Arrays.equals(row, at - n, at, row, at, at + n)) {
            n--;
        }
        return n;
    }

    private static long word(byte[] row, int at, int n) {
        long w = 0;
        for (int i = n - 1; i >= 0; i--) {
            w = w << 8 | row[at + i] & 255;
        }
        return w;
    }

    /** The beginning of a pattern that goes on for ever. */
    static String repeat(String pattern, int length) {
        return pattern.repeat(length / pattern.length() + 1).substring(0, length);
    }

    /** A row in which no two bytes stand side by side twice: each of them has its own code. */
    static String unlike(int length) {
        StringBuilder row = new StringBuilder();
        int value = 0;
        for (int i = 0; i < length; i++) {
            row.append((char) value);
            value = value + 2 * (i / 256) + 1 & 255;
        }
        return row.toString();
    }

    static int file(Chain chain, String path, String content) {
        type(chain, path + content);
        return chain.add(1, path.length(), 0644, 10, 20, 30);
    }

    static int directory(Chain chain, String path) {
        type(chain, path);
        return chain.add(0, path.length(), 0755, 1, 2, 3);
    }

    static int symlink(Chain chain, String path, String target) {
        type(chain, path + target);
        return chain.add(2, path.length(), 0777, 0, 0, 9);
    }

    static int link(Chain chain, int i, String path) {
        type(chain, path);
        return chain.link(i);
    }

    static String path(Chain chain, int tree, int i) {
        return range(chain, tree, i, 0, chain.about(tree, 6, i));
    }

    static String body(Chain chain, int tree, int i) {
        int path = chain.about(tree, 6, i);
        return range(chain, tree, i, path, path + chain.about(tree, 7, i));
    }

    private static String range(Chain chain, int tree, int i, int from, int to) {
        StringBuilder letters = new StringBuilder();
        for (int k = from; k < to; k++) {
            letters.append((char) chain.byteOf(tree, i, k));
        }
        return letters.toString();
    }

    static void same(String what, String got, String want) {
        calls++;
        if (!got.equals(want)) {
            wrong++;
            int at = 0;
            while (at < got.length() && at < want.length() && got.charAt(at) == want.charAt(at)) {
                at++;
            }
            System.out.println(shown(what) + " answered, from " + at + " on,\n"
                    + shown(got.substring(at)) + "\ndue is\n" + shown(want.substring(at)));
        }
    }

    static String stage(Chain chain, int what) {
        StringBuilder letters = new StringBuilder();
        for (int i = 0; chain.stage(what, i) != -1; i++) {
            letters.append((char) chain.stage(what, i));
        }
        return letters.toString();
    }

    static String part(Chain chain, int k) {
        StringBuilder letters = new StringBuilder();
        for (int i = 0; i < chain.part(k, -1); i++) {
            letters.append((char) chain.part(k, i));
        }
        return letters.toString();
    }

    static void end() {
        System.out.println(calls + " answers, " + wrong + " of them wrong");
        if (wrong > 0 || calls == 0) {
            System.exit(1);
        }
    }
}
