import java.nio.charset.StandardCharsets;

/** What the tests of the project have in common. */
final class Check {
    private static int calls = 0;
    private static int wrong = 0;

    private Check() {}

    /** A call that may throw. */
    interface Call {
        long answer();
    }

    /** A call without an answer. */
    interface Deed {
        void run();
    }

    static void due(String what, long got, long want) {
        calls++;
        if (got != want) {
            wrong++;
            System.out.println(what + " answered " + got + ", due is " + want);
        }
    }

    /** The call throws just this class of exception. */
    static void fails(String what, Class<? extends RuntimeException> want, Deed deed) {
        calls++;
        String got = "nothing";
        try {
            deed.run();
        } catch (RuntimeException e) {
            got = e.getClass().getSimpleName();
        }
        if (!got.equals(want.getSimpleName())) {
            wrong++;
            System.out.println(what + " threw " + got + ", due is " + want.getSimpleName());
        }
    }

    static void refused(String what, Deed deed) {
        fails(what, IllegalArgumentException.class, deed);
    }

    static void noIndex(String what, Deed deed) {
        fails(what, IndexOutOfBoundsException.class, deed);
    }

    static void noState(String what, Deed deed) {
        fails(what, IllegalStateException.class, deed);
    }

    static void tooMuch(String what, Deed deed) {
        fails(what, UnsupportedOperationException.class, deed);
    }

    static byte[] bytes(String letters) {
        return letters.getBytes(StandardCharsets.ISO_8859_1);
    }

    static String letters(byte[] bytes) {
        return new String(bytes, StandardCharsets.ISO_8859_1);
    }

    static void type(MailChain chain, byte[] bytes) {
        for (int at = 0; at < bytes.length; at += 8) {
            int n = Math.min(8, bytes.length - at);
            long w = 0;
            for (int i = n - 1; i >= 0; i--) {
                w = w << 8 | bytes[at + i] & 255;
            }
            chain.type(w, n);
        }
    }

    static void type(MailChain chain, String letters) {
        type(chain, bytes(letters));
    }

    /** Types a text, then repeats the last bytes until so many of them stand there. */
    static void typeRepeated(MailChain chain, String before, String pattern, int length) {
        type(chain, before);
        int first = Math.min(pattern.length(), length);
        type(chain, pattern.substring(0, first));
        int done = first;
        while (done < length) {
            int whole = done / pattern.length() * pattern.length();
            int more = Math.min(whole, length - done);
            if (more == whole) {
                chain.again(more);
                done += more;
            } else {
                // what is missing stands at the beginning of the pattern, not at its end
                int shift = done - more;
                done += repeatOrType(chain, pattern, done, more, shift);
            }
        }
    }

    private static int repeatOrType(
            MailChain chain, String pattern, int done, int more, int shift) {
        if (shift % pattern.length() == 0) {
            chain.again(more);
            return more;
        }
        int n = Math.min(more, pattern.length());
        StringBuilder next = new StringBuilder();
        for (int i = 0; i < n; i++) {
            next.append(pattern.charAt((done + i) % pattern.length()));
        }
        type(chain, next.toString());
        return n;
    }

    static int file(MailChain chain, String path, String content) {
        type(chain, path + content);
        return chain.add(1, path.length(), 0644, 10, 20, 30);
    }

    static int directory(MailChain chain, String path) {
        type(chain, path);
        return chain.add(0, path.length(), 0755, 1, 2, 3);
    }

    static int symlink(MailChain chain, String path, String target) {
        type(chain, path + target);
        return chain.add(2, path.length(), 0777, 0, 0, 9);
    }

    static int link(MailChain chain, int i, String path) {
        type(chain, path);
        return chain.link(i);
    }

    static String path(MailChain chain, int tree, int i) {
        return range(chain, tree, i, 0, chain.about(tree, 6, i));
    }

    static String body(MailChain chain, int tree, int i) {
        int path = chain.about(tree, 6, i);
        return range(chain, tree, i, path, path + chain.about(tree, 7, i));
    }

    private static String range(MailChain chain, int tree, int i, int from, int to) {
        StringBuilder letters = new StringBuilder();
        for (int k = from; k < to; k++) {
            letters.append((char) chain.byteOf(tree, i, k));
        }
        return letters.toString();
    }

    static void same(String what, String got, String want) {
        calls++;
        if (!got.equals(want)) {
            wrong++;
            System.out.println(what + " answered\n" + got + "\ndue is\n" + want);
        }
    }

    static String stage(MailChain chain, int what) {
        StringBuilder letters = new StringBuilder();
        for (int i = 0; chain.stage(what, i) != -1; i++) {
            letters.append((char) chain.stage(what, i));
        }
        return letters.toString();
    }

    static String part(MailChain chain, int k) {
        StringBuilder letters = new StringBuilder();
        for (int i = 0; i < chain.part(k, -1); i++) {
            letters.append((char) chain.part(k, i));
        }
        return letters.toString();
    }

    static void end() {
        System.out.println(calls + " answers, " + wrong + " of them wrong");
        if (wrong > 0 || calls == 0) {
            System.exit(1);
        }
    }
}
