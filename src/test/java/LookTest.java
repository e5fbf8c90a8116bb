/** Promises 16 and 17: about, byteOf. */
public final class LookTest {
    private static final int MIN = Integer.MIN_VALUE;
    private static final int MAX = Integer.MAX_VALUE;

    private LookTest() {}

    public static void main(String[] args) {
        Chain chain = twoTrees();
        for (int tree = 0; tree < 2; tree++) {
            aboutTellsHowMany(chain, tree);
            aboutTellsOfEntries(chain, tree);
            aboutNeedsAnEntry(chain, tree);
            aboutNeedsAWhat(chain, tree);
            byteOfTellsPathsThenBodies(chain, tree);
            byteOfNeedsAnEntry(chain, tree);
            byteOfNeedsAByte(chain, tree);
        }
        thereAreTwoTrees(chain);
        treesAreTheirOwn();
        emptyTreesHaveNothing();
        fullTreesHaveAll();
        greatestEntryHasAll();
        Check.end();
    }

    /** Both trees are the same: a, d, d/f and z (links of one another), s. */
    private static Chain twoTrees() {
        Chain chain = new Chain();
        Check.directory(chain, "d");
        Check.file(chain, "d/f", "\u0000\u00ffx");
        Check.symlink(chain, "s", "to");
        Check.link(chain, 1, "z");
        Check.file(chain, "a", "");
        unpackMine(chain);
        return chain;
    }

    private static void unpackMine(Chain chain) {
        int parts = chain.pack(16, 4000);
        for (int k = 1; k <= parts; k++) {
            Check.due("pass(" + k + ", 0, 0)", chain.pass(k, 0, 0), 0);
        }
        Check.due("unpack()", chain.unpack(), 0);
    }

    /** "How many entries a tree has, for what = 0 (whatever i)" */
    private static void aboutTellsHowMany(Chain chain, int tree) {
        for (int i : new int[] {0, 4, 5, 99, -1, MIN, MAX}) {
            Check.due("about(" + tree + ", 0, " + i + ")", chain.about(tree, 0, i), 5);
        }
    }

    /** "1 kind, 2 mode, 3 owner, .. 8 the number of the first entry .., 9 how many are" */
    private static void aboutTellsOfEntries(Chain chain, int tree) {
        int[][] want = {
            {1, 0644, 10, 20, 30, 1, 0, 0, 1},
            {0, 0755, 1, 2, 3, 1, 0, 1, 1},
            {1, 0644, 10, 20, 30, 3, 3, 2, 2},
            {2, 0777, 0, 0, 9, 1, 2, 3, 1},
            {1, 0644, 10, 20, 30, 1, 3, 2, 2},
        };
        for (int i = 0; i < want.length; i++) {
            for (int what = 1; what <= 9; what++) {
                Check.due("about(" + tree + ", " + what + ", " + i + ")",
                        chain.about(tree, what, i), want[i][what - 1]);
            }
        }
    }

    /** "IndexOutOfBoundsException when there is no such entry" */
    private static void aboutNeedsAnEntry(Chain chain, int tree) {
        for (int i : new int[] {-1, 5, 6, 40, 41, MIN, MAX}) {
            for (int what = 1; what <= 9; what++) {
                int asked = what;
                Check.noIndex("about(" + tree + ", " + what + ", " + i + ")",
                        () -> chain.about(tree, asked, i));
            }
        }
    }

    /** ".. or what." */
    private static void aboutNeedsAWhat(Chain chain, int tree) {
        for (int what : new int[] {-1, 10, 11, 16, 256, MIN, MAX}) {
            for (int i : new int[] {0, 4, 5, -1}) {
                Check.noIndex("about(" + tree + ", " + what + ", " + i + ")",
                        () -> chain.about(tree, what, i));
            }
        }
    }

    private static final String[] BYTES = {"a", "d", "d/f\u0000\u00ffx", "sto", "z\u0000\u00ffx"};

    /** "Byte k of the path of the i-th entry; behind it that of its content or target." */
    private static void byteOfTellsPathsThenBodies(Chain chain, int tree) {
        for (int i = 0; i < BYTES.length; i++) {
            for (int k = 0; k < BYTES[i].length(); k++) {
                Check.due("byteOf(" + tree + ", " + i + ", " + k + ")",
                        chain.byteOf(tree, i, k), BYTES[i].charAt(k));
            }
        }
    }

    private static void byteOfNeedsAnEntry(Chain chain, int tree) {
        for (int i : new int[] {-1, 5, 6, 40, 41, MIN, MAX}) {
            for (int k : new int[] {0, -1, 9}) {
                Check.noIndex("byteOf(" + tree + ", " + i + ", " + k + ")",
                        () -> chain.byteOf(tree, i, k));
            }
        }
    }

    /** "IndexOutOfBoundsException when there is none." */
    private static void byteOfNeedsAByte(Chain chain, int tree) {
        for (int i = 0; i < BYTES.length; i++) {
            int at = i;
            int size = BYTES[i].length();
            for (int k : new int[] {-1, size, size + 1, MIN, MAX}) {
                Check.noIndex("byteOf(" + tree + ", " + i + ", " + k + ")",
                        () -> chain.byteOf(tree, at, k));
            }
        }
    }

    /** "IllegalArgumentException when tree is not 0 or 1" */
    private static void thereAreTwoTrees(Chain chain) {
        for (int tree : new int[] {-1, 2, 3, 256, MIN, MAX}) {
            Check.refused("about(" + tree + ", 0, 0)", () -> chain.about(tree, 0, 0));
            Check.refused("about(" + tree + ", 1, 0)", () -> chain.about(tree, 1, 0));
            Check.refused("byteOf(" + tree + ", 0, 0)", () -> chain.byteOf(tree, 0, 0));
        }
    }

    private static void treesAreTheirOwn() {
        Chain chain = new Chain();
        Check.file(chain, "a", "first");
        unpackMine(chain);
        Check.file(chain, "b", "second");
        Check.due("MINE", chain.about(0, 0, 0), 2);
        Check.due("YOURS", chain.about(1, 0, 0), 1);
        Check.noIndex("byteOf(1, 1, 0)", () -> chain.byteOf(1, 1, 0));
        chain.clear();
        Check.due("MINE", chain.about(0, 0, 0), 0);
        Check.noIndex("byteOf(0, 0, 0)", () -> chain.byteOf(0, 0, 0));
        Check.same("YOURS", Check.body(chain, 1, 0), "first");
        Check.file(chain, "c", "third");
        Check.same("YOURS stays", Check.path(chain, 1, 0) + Check.body(chain, 1, 0), "afirst");
    }

    private static void emptyTreesHaveNothing() {
        Chain chain = new Chain();
        for (int tree = 0; tree < 2; tree++) {
            int asked = tree;
            for (int i : new int[] {0, -1, 1, 40}) {
                Check.due("about(" + tree + ", 0, " + i + ")", chain.about(tree, 0, i), 0);
                Check.noIndex("about(" + tree + ", 1, " + i + ")",
                        () -> chain.about(asked, 1, i));
                Check.noIndex("byteOf(" + tree + ", " + i + ", 0)",
                        () -> chain.byteOf(asked, i, 0));
            }
        }
    }

    private static void fullTreesHaveAll() {
        Chain chain = new Chain();
        Check.file(chain, "f", "x");
        for (int i = 1; i < 40; i++) {
            Check.link(chain, 0, "g" + (char) i);
        }
        unpackMine(chain);
        for (int tree = 0; tree < 2; tree++) {
            int asked = tree;
            Check.due("entries", chain.about(tree, 0, 0), 40);
            for (int i = 0; i < 40; i++) {
                Check.due("first of " + i, chain.about(tree, 8, i), 0);
                Check.due("links of " + i, chain.about(tree, 9, i), 40);
            }
            Check.due("byteOf(.., 39, 1)", chain.byteOf(tree, 39, 1), 39);
            Check.due("byteOf(.., 39, 2)", chain.byteOf(tree, 39, 2), 'x');
            Check.noIndex("byteOf(.., 39, 3)", () -> chain.byteOf(asked, 39, 3));
            Check.noIndex("about(.., 1, 40)", () -> chain.about(asked, 1, 40));
            Check.noIndex("byteOf(.., 40, 0)", () -> chain.byteOf(asked, 40, 0));
        }
    }

    private static void greatestEntryHasAll() {
        Chain chain = new Chain();
        String path = "p".repeat(59) + "q";
        Check.file(chain, path, Check.repeat("12345678", 6000));
        unpackMine(chain);
        for (int tree = 0; tree < 2; tree++) {
            int asked = tree;
            Check.due("bytes of the path", chain.about(tree, 6, 0), 60);
            Check.due("bytes of the content", chain.about(tree, 7, 0), 6000);
            Check.due("byte 59", chain.byteOf(tree, 0, 59), 'q');
            Check.due("byte 60", chain.byteOf(tree, 0, 60), '1');
            Check.due("byte 6059", chain.byteOf(tree, 0, 6059), '8');
            Check.noIndex("byte 6060", () -> chain.byteOf(asked, 0, 6060));
        }
    }
}
