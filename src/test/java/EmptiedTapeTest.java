/**
 * Of the terms: "a call that reads it empties it, whatever it answers or throws." What does not
 * read the tape leaves it.
 */
public final class EmptiedTapeTest {
    /** A call of which it does not count here what it answers or throws. */
    private interface Deed {
        void on(Chain chain);
    }

    private static final String GREAT = "m" + Check.repeat("12345678", 6000);

    private EmptiedTapeTest() {}

    public static void main(String[] args) {
        addEmptiesTheTape();
        linkEmptiesTheTape();
        checksumEmptiesTheTape();
        receiveEmptiesTheTape();
        forgeEmptiesTheTape();
        makingLeavesTheTape();
        lookingLeavesTheTape();
        theBoxLeavesTheTape();
        Check.end();
    }

    /** A directory, a file with a content, a symlink; one part; parts 2 of 3 in the box. */
    private static Chain scene() {
        Chain chain = new Chain();
        Check.directory(chain, "d");
        Check.file(chain, "f", "hello");
        Check.symlink(chain, "s", "f");
        Check.due("pack(9, 4000)", chain.pack(9, 4000), 1);
        Check.type(chain, Model.part(2, 3, "x"));
        Check.due("receive()", chain.receive(), 0);
        return chain;
    }

    private static void run(Chain chain, Deed deed) {
        try {
            deed.on(chain);
        } catch (RuntimeException e) {
            // what it throws is asked for elsewhere
        }
    }

    private static void empties(String what, String tape, Deed deed) {
        Chain chain = scene();
        Check.type(chain, tape);
        run(chain, deed);
        Check.refused("again(1) behind " + what, () -> chain.again(1));
        Check.due("again(0) behind " + what, chain.again(0), 0);
        Check.due("type behind " + what, chain.type('a', 1), 1);
        Check.due("checksum behind " + what, chain.checksum(), 1220704766);
    }

    private static void leaves(String what, Deed deed) {
        Chain chain = scene();
        Check.type(chain, "123456");
        run(chain, deed);
        Check.due("type behind " + what, chain.type(0x393837L, 3), 9);
        Check.due("checksum behind " + what, chain.checksum(), 930766865);
    }

    private static void addEmptiesTheTape() {
        empties("add", "axyz", chain -> chain.add(1, 1, 0, 0, 0, 0));
        empties("add, kind 3", "axyz", chain -> chain.add(3, 1, 0, 0, 0, 0));
        empties("add, n 0", "axyz", chain -> chain.add(1, 0, 0, 0, 0, 0));
        empties("add, n 5", "axyz", chain -> chain.add(1, 5, 0, 0, 0, 0));
        empties("add, n 61", "a".repeat(70), chain -> chain.add(1, 61, 0, 0, 0, 0));
        empties("add, mode 4096", "axyz", chain -> chain.add(1, 1, 4096, 0, 0, 0));
        empties("add, owner -1", "axyz", chain -> chain.add(1, 1, 0, -1, 0, 0));
        empties("add, group -1", "axyz", chain -> chain.add(1, 1, 0, 0, -1, 0));
        empties("add, time -1", "axyz", chain -> chain.add(1, 1, 0, 0, 0, -1));
        empties("add, no target", "a", chain -> chain.add(2, 1, 0, 0, 0, 0));
        empties("add, a directory's content", "axyz", chain -> chain.add(0, 1, 0, 0, 0, 0));
        empties("add, no path", ".xyz", chain -> chain.add(1, 1, 0, 0, 0, 0));
        empties("add, no directory", "f/axyz", chain -> chain.add(1, 3, 0, 0, 0, 0));
        empties("add, there is", "fxyz", chain -> chain.add(1, 1, 0, 0, 0, 0));
        empties("add, too much", GREAT, chain -> chain.add(1, 1, 0, 0, 0, 0));
    }

    private static void linkEmptiesTheTape() {
        empties("link", "a", chain -> chain.link(1));
        empties("link, no index", "a", chain -> chain.link(3));
        empties("link, no file", "a", chain -> chain.link(0));
        empties("link, no path", ".", chain -> chain.link(1));
        empties("link, no directory", "f/a", chain -> chain.link(1));
        empties("link, a long tape", GREAT, chain -> chain.link(1));
        empties("link, there is", "s", chain -> chain.link(1));
        empties("link, too much", "", chain -> {
            Check.type(chain, "m" + Check.repeat("12345678", 5995));
            chain.add(1, 1, 0, 0, 0, 0);
            Check.type(chain, "z");
            chain.link(1);
        });
    }

    private static void checksumEmptiesTheTape() {
        empties("checksum", "a", Chain::checksum);
        empties("checksum of a full tape", Check.repeat("abcdefgh", 8000), Chain::checksum);
    }

    private static void receiveEmptiesTheTape() {
        empties("receive, 0", Model.part(1, 3, "y"), Chain::receive);
        empties("receive, 1", "PART", Chain::receive);
        empties("receive, 2", Model.part(1, 2, "y"), Chain::receive);
        empties("receive, 3", Model.part(2, 3, "x"), Chain::receive);
        empties("receive, 4", Model.part(1, 3, "y") + "z", Chain::receive);
        empties("receive, 5", "PART 1 OF 3 SIZE 1 CKSUM 0\na", Chain::receive);
    }

    private static void forgeEmptiesTheTape() {
        for (int what = 0; what <= 2; what++) {
            int asked = what;
            empties("forge(" + what + ", 9)", "axyz", chain -> chain.forge(asked, 9));
        }
        empties("forge(-1, 9)", "axyz", chain -> chain.forge(-1, 9));
        empties("forge(3, 9)", "axyz", chain -> chain.forge(3, 9));
        empties("forge(0, 8)", "axyz", chain -> chain.forge(0, 8));
        empties("forge(0, 17)", "axyz", chain -> chain.forge(0, 17));
    }

    private static void makingLeavesTheTape() {
        leaves("nothing", chain -> { });
        leaves("type, refused", chain -> chain.type(0, 9));
        leaves("again, refused", chain -> chain.again(7));
        leaves("clear", Chain::clear);
        leaves("pack", chain -> chain.pack(16, 40));
        leaves("pack, refused", chain -> chain.pack(8, 40));
    }

    private static void lookingLeavesTheTape() {
        leaves("part", chain -> chain.call(on -> on.part(1, 0)));
        leaves("part, how many", chain -> chain.call(on -> on.part(1, -1)));
        leaves("part, refused", chain -> chain.call(on -> on.part(2, 0)));
        leaves("stage 0", chain -> chain.call(on -> on.stage(0, 0)));
        leaves("stage 1", chain -> chain.call(on -> on.stage(1, 0)));
        leaves("stage 2", chain -> chain.call(on -> on.stage(2, 0)));
        leaves("stage, refused", chain -> chain.call(on -> on.stage(3, 0)));
        leaves("about", chain -> chain.call(on -> on.about(0, 9, 1)));
        leaves("about, refused", chain -> chain.call(on -> on.about(2, 0, 0)));
        leaves("byteOf", chain -> chain.call(on -> on.byteOf(0, 1, 1)));
        leaves("byteOf, refused", chain -> chain.call(on -> on.byteOf(0, 1, 9)));
    }

    private static void theBoxLeavesTheTape() {
        leaves("pass, 2", chain -> chain.pass(1, 0, 0));
        leaves("pass, 1", chain -> chain.pass(1, 0, 255));
        leaves("pass, no index", chain -> chain.pass(2, 0, 0));
        leaves("pass, refused", chain -> chain.pass(1, 0, 256));
        leaves("empty", Chain::empty);
        leaves("unpack, 6", Chain::unpack);
        leaves("pass and unpack, 0", chain -> {
            chain.empty();
            Check.due("pass(1, 0, 0)", chain.pass(1, 0, 0), 0);
            Check.due("unpack()", chain.unpack(), 0);
        });
        for (int what = 0; what <= 2; what++) {
            int wrong = what;
            leaves("unpack, " + (9 - what), chain -> {
                chain.checksum();
                chain.forge(wrong, 9);
                Check.type(chain, "123456");
                Check.due("unpack()", chain.unpack(), 9 - wrong);
            });
        }
    }
}
