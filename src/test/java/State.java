/** All that can be seen of an object. */
final class State {
    /** No test has a box with parts of a greater n where it asks for the state. */
    private static final int MOST_PARTS = 5;

    private State() {}

    static String of(Chain chain) {
        StringBuilder text = new StringBuilder();
        Chain tape = chain.copy();
        text.append("tape ").append(tape.again(0)).append(' ').append(tape.checksum());
        text.append("\nMINE").append(tree(chain.copy(), 0));
        text.append("\nYOURS").append(tree(chain.copy(), 1));
        for (int what = 0; what < 3; what++) {
            text.append("\nstage ").append(what).append(": ").append(Check.stage(chain, what));
        }
        text.append("\nparts:").append(parts(chain));
        text.append("\nbox:").append(box(chain));
        text.append("\nunpacked: ").append(unpacked(chain.copy()));
        text.append("\nfilled and unpacked: ").append(filledAndUnpacked(chain.copy()));
        return text.toString();
    }

    private static String tree(Chain chain, int tree) {
        StringBuilder text = new StringBuilder();
        int count = chain.about(tree, 0, 0);
        for (int i = 0; i < count; i++) {
            text.append("\n ");
            for (int what = 1; what <= 9; what++) {
                text.append(' ').append(chain.about(tree, what, i));
            }
            text.append(' ').append(Check.path(chain, tree, i));
            text.append(' ').append(Check.body(chain, tree, i));
        }
        return text.toString();
    }

    private static boolean hasPart(Chain chain, int k) {
        try {
            return chain.part(k, -1) >= 0;
        } catch (IndexOutOfBoundsException e) {
            return false;
        }
    }

    private static String parts(Chain chain) {
        StringBuilder text = new StringBuilder();
        for (int k = 1; hasPart(chain, k); k++) {
            text.append("\n ").append(Check.part(chain, k));
        }
        return text.toString();
    }

    /** A part with too few bytes never comes in, but 2 or 3 is told first. */
    private static String box(Chain chain) {
        StringBuilder text = new StringBuilder();
        for (int n = 1; n <= MOST_PARTS; n++) {
            for (int k = 1; k <= n; k++) {
                Chain copy = chain.copy();
                copy.checksum();
                Check.type(copy, "PART " + k + " OF " + n + " SIZE 1 CKSUM 0\n");
                text.append(' ').append(copy.receive());
            }
        }
        return text.append(", parts: ").append(chain.copy().empty()).toString();
    }

    private static String unpacked(Chain chain) {
        return chain.unpack() + tree(chain, 1) + "\n left: " + chain.empty();
    }

    private static String filledAndUnpacked(Chain chain) {
        for (int k = 1; hasPart(chain, k); k++) {
            chain.pass(k, 0, 0);
        }
        return unpacked(chain);
    }
}
