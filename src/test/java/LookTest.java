/** Promises 16 and 17: about, byteOf. */
public final class LookTest {
    private LookTest() {}

    public static void main(String[] args) {
        MailChain chain = twoTrees();
        for (int tree = 0; tree < 2; tree++) {
            aboutTellsAll(chain, tree);
            byteOfTellsAll(chain, tree);
            bounds(chain, tree);
        }
        otherTrees(chain);
        Check.end();
    }

    private static MailChain twoTrees() {
        MailChain chain = new MailChain();
        Check.directory(chain, "d");
        Check.file(chain, "d/f", "\u0000\u00ffx");
        Check.symlink(chain, "s", "to");
        Check.link(chain, 1, "z");
        Check.file(chain, "a", "");
        chain.pack(16, 4000);
        chain.pass(1, 0, 0);
        Check.due("unpack()", chain.unpack(), 0);
        return chain;
    }

    private static void aboutTellsAll(MailChain chain, int tree) {
        int[][] want = {
            {1, 0644, 10, 20, 30, 1, 0, 0, 1},
            {0, 0755, 1, 2, 3, 1, 0, 1, 1},
            {1, 0644, 10, 20, 30, 3, 3, 2, 2},
            {2, 0777, 0, 0, 9, 1, 2, 3, 1},
            {1, 0644, 10, 20, 30, 1, 3, 2, 2},
        };
        for (int i = 0; i < want.length; i++) {
            for (int what = 1; what <= 9; what++) {
                Check.due("about(" + tree + ", " + what + ", " + i + ")",
                        chain.about(tree, what, i), want[i][what - 1]);
            }
        }
        for (int i : new int[] {-1, 0, 5, 99, Integer.MIN_VALUE, Integer.MAX_VALUE}) {
            Check.due("about(" + tree + ", 0, " + i + ")", chain.about(tree, 0, i), 5);
        }
    }

    private static void byteOfTellsAll(MailChain chain, int tree) {
        String[] want = {"a", "d", "d/f\u0000\u00ffx", "sto", "z\u0000\u00ffx"};
        for (int i = 0; i < want.length; i++) {
            for (int k = 0; k < want[i].length(); k++) {
                Check.due("byteOf(" + tree + ", " + i + ", " + k + ")",
                        chain.byteOf(tree, i, k), want[i].charAt(k));
            }
            int at = i;
            int size = want[i].length();
            for (int k : new int[] {-1, size, Integer.MIN_VALUE, Integer.MAX_VALUE}) {
                Check.noIndex("byteOf(" + tree + ", " + i + ", " + k + ")",
                        () -> chain.byteOf(tree, at, k));
            }
        }
    }

    private static void bounds(MailChain chain, int tree) {
        for (int i : new int[] {-1, 5, 40, 41, Integer.MIN_VALUE, Integer.MAX_VALUE}) {
            for (int what = 1; what <= 9; what++) {
                int asked = what;
                Check.noIndex("about(" + tree + ", " + what + ", " + i + ")",
                        () -> chain.about(tree, asked, i));
            }
            Check.noIndex("byteOf(" + tree + ", " + i + ", 0)", () -> chain.byteOf(tree, i, 0));
        }
        for (int what : new int[] {-1, 10, Integer.MIN_VALUE, Integer.MAX_VALUE}) {
            Check.noIndex("about(" + tree + ", " + what + ", 0)",
                    () -> chain.about(tree, what, 0));
        }
    }

    private static void otherTrees(MailChain chain) {
        for (int tree : new int[] {-1, 2, Integer.MIN_VALUE, Integer.MAX_VALUE}) {
            Check.refused("about(" + tree + ", 0, 0)", () -> chain.about(tree, 0, 0));
            Check.refused("about(" + tree + ", 99, 99)", () -> chain.about(tree, 99, 99));
            Check.refused("byteOf(" + tree + ", 0, 0)", () -> chain.byteOf(tree, 0, 0));
            Check.refused("byteOf(" + tree + ", 99, 99)", () -> chain.byteOf(tree, 99, 99));
        }
    }
}
