/**
 * Of the terms: "where several exceptions that a call names fit, it is the one that it names
 * first."
 */
public final class FirstNamedTest {
    private static final int MAX = Integer.MAX_VALUE;

    private FirstNamedTest() {}

    public static void main(String[] args) {
        typeNamesArgumentsFirst();
        againNamesArgumentsFirst();
        addNamesArgumentsFirst();
        addNamesThePathBeforeTheRoom();
        linkNamesTheEntryFirst();
        linkNamesArgumentsSecond();
        linkNamesThePathBeforeTheRoom();
        packNamesArgumentsBeforeOwners();
        passNamesTheByteFirst();
        aboutNamesTheTreeFirst();
        byteOfNamesTheTreeFirst();
        Check.end();
    }

    private static Chain full() {
        Chain chain = new Chain();
        Check.type(chain, Check.repeat("abcdefgh", 8000));
        return chain;
    }

    private static void typeNamesArgumentsFirst() {
        Chain chain = full();
        Check.refused("type(0, 9), full", () -> chain.type(0, 9));
        Check.refused("type(0, 0), full", () -> chain.type(0, 0));
        Check.refused("type(0, MAX), full", () -> chain.type(0, MAX));
        Check.tooMuch("type(0, 8), full", () -> chain.type(0, 8));
    }

    private static void againNamesArgumentsFirst() {
        Chain chain = full();
        Check.refused("again(8001), full", () -> chain.again(8001));
        Check.refused("again(MAX), full", () -> chain.again(MAX));
        Check.refused("again(-1), full", () -> chain.again(-1));
        Check.tooMuch("again(8000), full", () -> chain.again(8000));
    }

    /** A tree in which nothing has room: 40 entries, and 6000 bytes in a; d is a directory. */
    private static Chain noRoom() {
        Chain chain = new Chain();
        Check.file(chain, "a", Check.repeat("12345678", 6000));
        Check.directory(chain, "d");
        Check.symlink(chain, "s", "a");
        for (int i = 3; i < 40; i++) {
            Check.file(chain, "x" + (char) i, "");
        }
        Check.due("entries", chain.about(0, 0, 0), 40);
        return chain;
    }

    private static void addNamesArgumentsFirst() {
        for (String path : new String[] {"a", "new"}) {
            Chain chain = noRoom();
            int n = path.length();
            for (int wrong = 0; wrong < 8; wrong++) {
                int which = wrong;
                Check.type(chain, path + "xyz");
                Check.refused("add " + path + ", wrong " + wrong, () -> chain.add(
                        which == 0 ? 3 : which == 1 ? 0 : 1, which == 2 ? n + 4 : n,
                        which == 3 ? 4096 : 0, which == 4 ? -1 : 0, which == 5 ? -1 : 0,
                        which == 6 ? -1 : which == 7 ? Integer.MIN_VALUE : 0));
            }
            Check.type(chain, path);
            Check.refused("add " + path + ", no target", () -> chain.add(2, n, 0, 0, 0, 0));
        }
        Chain chain = noRoom();
        Check.refused("no path, no room", () -> Check.file(chain, ".", "x"));
        Check.refused("no directory, no room", () -> Check.file(chain, "a/b", "x"));
    }

    private static void addNamesThePathBeforeTheRoom() {
        Chain chain = noRoom();
        Check.noState("a file, there is, no room", () -> Check.file(chain, "a", "x"));
        Check.noState("a directory, there is, no room", () -> Check.directory(chain, "d"));
        Check.noState("a symlink, there is, no room", () -> Check.symlink(chain, "s", "x"));
        Chain one = new Chain();
        Check.file(one, "a", "");
        Check.noState("there is, too many bytes",
                () -> Check.file(one, "a", Check.repeat("12345678", 6001)));
        Check.tooMuch("too many bytes",
                () -> Check.file(one, "b", Check.repeat("12345678", 6001)));
    }

    private static void linkNamesTheEntryFirst() {
        Chain chain = noRoom();
        for (String path : new String[] {"", ".", "a/b", "a", "new", "p".repeat(61),
            "p".repeat(8000)}) {
            Check.noIndex("no entry, " + path, () -> Check.link(chain, 40, path));
            Check.noIndex("no entry, " + path, () -> Check.link(chain, -1, path));
        }
    }

    private static void linkNamesArgumentsSecond() {
        Chain chain = noRoom();
        for (String path : new String[] {"", ".", "a/b", "a", "new", "p".repeat(61)}) {
            Check.refused("of a directory, " + path, () -> Check.link(chain, 1, path));
            Check.refused("of a symlink, " + path, () -> Check.link(chain, 2, path));
        }
        Check.refused("no path, no room", () -> Check.link(chain, 0, ".."));
        Check.refused("no directory, no room", () -> Check.link(chain, 0, "a/b"));
    }

    private static void linkNamesThePathBeforeTheRoom() {
        Chain chain = noRoom();
        Check.noState("there is, no room", () -> Check.link(chain, 0, "a"));
        Check.noState("there is, no room", () -> Check.link(chain, 0, "d"));
        Check.tooMuch("no room", () -> Check.link(chain, 0, "new"));
        Chain two = new Chain();
        Check.file(two, "a", Check.repeat("12345678", 6000));
        Check.file(two, "b", "");
        Check.noState("there is, too many bytes", () -> Check.link(two, 0, "b"));
        Check.tooMuch("too many bytes", () -> Check.link(two, 0, "c"));
    }

    /** What pack() answers counts only when it throws nothing. */
    private static void packNamesArgumentsBeforeOwners() {
        Chain chain = new Chain();
        Check.type(chain, "a");
        chain.add(1, 1, 0, 262144, 0, 0);
        Check.refused("pack(8, 40)", () -> chain.pack(8, 40));
        Check.refused("pack(9, 39)", () -> chain.pack(9, 39));
        Check.due("pack(9, 40)", chain.pack(9, 40), -1);
    }

    private static void passNamesTheByteFirst() {
        Chain chain = new Chain();
        Check.noIndex("pass(1, 0, 256), before pack", () -> chain.pass(1, 0, 256));
        chain.pack(9, 4000);
        int size = chain.part(1, -1);
        for (int x : new int[] {-1, 256}) {
            Check.noIndex("no part", () -> chain.pass(0, 0, x));
            Check.noIndex("no part", () -> chain.pass(2, 0, x));
            Check.noIndex("no byte", () -> chain.pass(1, -1, x));
            Check.noIndex("no byte", () -> chain.pass(1, size, x));
            Check.refused("no x", () -> chain.pass(1, size - 1, x));
        }
    }

    private static void aboutNamesTheTreeFirst() {
        Chain chain = new Chain();
        for (int tree : new int[] {-1, 2}) {
            Check.refused("no tree, no entry", () -> chain.about(tree, 1, 0));
            Check.refused("no tree, no what", () -> chain.about(tree, 10, 0));
            Check.refused("no tree, neither", () -> chain.about(tree, -1, -1));
        }
    }

    private static void byteOfNamesTheTreeFirst() {
        Chain chain = new Chain();
        for (int tree : new int[] {-1, 2}) {
            Check.refused("no tree, no entry", () -> chain.byteOf(tree, 0, 0));
            Check.refused("no tree, neither", () -> chain.byteOf(tree, -1, -1));
        }
    }
}
