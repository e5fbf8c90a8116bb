/**
 * Of the terms: "A call that throws changes nothing (but for the tape)"; and what is told of a row
 * that does not come into the box, of a box that is no tree, and of a tree without an archive
 * changes nothing either.
 */
public final class RefusalTest {
    private static final Class<IllegalArgumentException> ARGUMENT = IllegalArgumentException.class;
    private static final Class<IllegalStateException> STATE = IllegalStateException.class;
    private static final Class<UnsupportedOperationException> ROOM =
            UnsupportedOperationException.class;
    private static final Class<IndexOutOfBoundsException> INDEX = IndexOutOfBoundsException.class;

    private RefusalTest() {}

    public static void main(String[] args) {
        refusedTypeAndAgain();
        refusedAdd();
        refusedLink();
        refusedForRoom();
        refusedPack();
        packOfGreatOwners();
        refusedLooks();
        toldReceive();
        toldPass();
        refusedPass();
        refusedForge();
        toldUnpackOfMissingParts();
        toldUnpack();
        Check.end();
    }

    /**
     * All that can be there is there: in MINE d, d/f, d/l (links), m, s, t; in YOURS the same
     * without m and t; three parts of MINE before t came, of which the first and the last are in
     * the box.
     */
    private static Chain scene() {
        Chain chain = new Chain();
        Check.directory(chain, "d");
        Check.file(chain, "d/f", "hello");
        Check.link(chain, 1, "d/l");
        Check.symlink(chain, "s", "d/f");
        Check.due("pack(16, 4000)", chain.pack(16, 4000), 1);
        chain.pass(1, 0, 0);
        Check.due("unpack()", chain.unpack(), 0);
        Check.file(chain, "m", "more");
        Check.due("pack(9, 100)", chain.pack(9, 100), 3);
        Check.due("pass(1, 0, 0)", chain.pass(1, 0, 0), 0);
        Check.due("pass(3, 0, 0)", chain.pass(3, 0, 0), 0);
        Check.directory(chain, "t");
        return chain;
    }

    private static void dueUnchanged(String what, Chain before, Chain after) {
        Check.same("the state behind " + what, State.of(after), State.of(before));
    }

    /** A call that throws leaves all, and the tape too if it does not read it. */
    private static void leavesAll(String what, String tape, Class<? extends RuntimeException> want,
            Chain.Call call) {
        Chain before = scene();
        Check.type(before, tape);
        Chain after = before.copy();
        Check.fails(what, want, () -> after.call(call));
        dueUnchanged(what, before, after);
    }

    /** A call that throws leaves all but the tape. */
    private static void leavesAllButTape(String what, Chain before, String tape,
            Class<? extends RuntimeException> want, Chain.Call call) {
        Chain after = before.copy();
        Check.type(after, tape);
        Check.fails(what, want, () -> after.call(call));
        dueUnchanged(what, before, after);
    }

    /** A call that answers so leaves all; of the tape only what it does not read. */
    private static void answersAndLeaves(String what, Chain before, String tape, long want,
            Chain.Call call) {
        Chain after = before.copy();
        Check.type(after, tape);
        Check.due(what, after.call(call), want);
        dueUnchanged(what, before, after);
    }

    private static void refusedTypeAndAgain() {
        leavesAll("type(1, 0)", "tape", ARGUMENT, on -> on.type(1, 0));
        leavesAll("type(1, 9)", "tape", ARGUMENT, on -> on.type(1, 9));
        leavesAll("again(5)", "tape", ARGUMENT, on -> on.again(5));
        leavesAll("again(-1)", "tape", ARGUMENT, on -> on.again(-1));
        String full = Check.repeat("abcdefgh", 7999);
        leavesAll("type(1, 2)", full, ROOM, on -> on.type(1, 2));
        leavesAll("again(2)", full, ROOM, on -> on.again(2));
    }

    private static void refusesToAdd(String what, String tape,
            Class<? extends RuntimeException> want, int... numbers) {
        leavesAllButTape("add, " + what, scene(), tape, want, on -> on.add(numbers[0], numbers[1],
                numbers[2], numbers[3], numbers[4], numbers[5]));
    }

    private static void refusedAdd() {
        refusesToAdd("kind -1", "axyz", ARGUMENT, -1, 1, 0, 0, 0, 0);
        refusesToAdd("kind 3", "axyz", ARGUMENT, 3, 1, 0, 0, 0, 0);
        refusesToAdd("n 0", "axyz", ARGUMENT, 1, 0, 0, 0, 0, 0);
        refusesToAdd("n 5 of 4", "axyz", ARGUMENT, 1, 5, 0, 0, 0, 0);
        refusesToAdd("n 61", "a".repeat(70), ARGUMENT, 1, 61, 0, 0, 0, 0);
        refusesToAdd("mode", "axyz", ARGUMENT, 1, 1, 4096, 0, 0, 0);
        refusesToAdd("owner", "axyz", ARGUMENT, 1, 1, 0, -1, 0, 0);
        refusesToAdd("group", "axyz", ARGUMENT, 1, 1, 0, 0, -1, 0);
        refusesToAdd("time", "axyz", ARGUMENT, 1, 1, 0, 0, 0, -1);
        refusesToAdd("no target", "a", ARGUMENT, 2, 1, 0, 0, 0, 0);
        refusesToAdd("a long target", "a" + "t".repeat(61), ARGUMENT, 2, 1, 0, 0, 0, 0);
        refusesToAdd("a target with 0", "at\0", ARGUMENT, 2, 1, 0, 0, 0, 0);
        refusesToAdd("a directory's content", "ax", ARGUMENT, 0, 1, 0, 0, 0, 0);
        refusesToAdd("no path", "..x", ARGUMENT, 1, 2, 0, 0, 0, 0);
        refusesToAdd("no directory", "m/ax", ARGUMENT, 1, 3, 0, 0, 0, 0);
        refusesToAdd("there is d", "d", STATE, 0, 1, 1, 1, 1, 1);
        refusesToAdd("there is d/f", "d/fother", STATE, 1, 3, 1, 1, 1, 1);
        refusesToAdd("there is s", "sother", STATE, 2, 1, 1, 1, 1, 1);
        // an owner or group that an archive cannot have, of an entry that did not come in
        refusesToAdd("a great owner, there is d", "d", STATE, 0, 1, 1, 262144, 1, 1);
        refusesToAdd("a great group, there is d", "d", STATE, 0, 1, 1, 1, 262144, 1);
        refusesToAdd("too many bytes", "n" + Check.repeat("12345678", 6000), ROOM,
                1, 1, 0, 0, 0, 0);
    }

    private static void refusesToLink(String what, int i, String tape,
            Class<? extends RuntimeException> want) {
        leavesAllButTape("link, " + what, scene(), tape, want, on -> on.link(i));
    }

    private static void refusedLink() {
        refusesToLink("no entry", 6, "a", INDEX);
        refusesToLink("no entry", -1, "a", INDEX);
        refusesToLink("of a directory", 0, "a", ARGUMENT);
        refusesToLink("of a symlink", 4, "a", ARGUMENT);
        refusesToLink("no path", 1, "a/", ARGUMENT);
        refusesToLink("no tape", 1, "", ARGUMENT);
        refusesToLink("a long path", 1, "a".repeat(61), ARGUMENT);
        refusesToLink("no directory", 1, "x/a", ARGUMENT);
        refusesToLink("there is m", 1, "m", STATE);
        refusesToLink("there is d", 3, "d", STATE);
    }

    /** MINE has 40 entries; or 6000 bytes. */
    private static void refusedForRoom() {
        Chain many = scene();
        for (int i = 6; i < 40; i++) {
            Check.file(many, "x" + (char) i, "");
        }
        Check.due("entries", many.about(0, 0, 0), 40);
        leavesAllButTape("add, entry 41", many, "zx", ROOM, on -> on.add(1, 1, 1, 1, 1, 1));
        leavesAllButTape("link, entry 41", many, "z", ROOM, on -> on.link(1));
        Chain great = scene();
        Check.file(great, "n", Check.repeat("12345678", 6000 - 14));
        leavesAllButTape("add, byte 6001", great, "zx", ROOM, on -> on.add(1, 1, 1, 1, 1, 1));
        leavesAllButTape("link, byte 6001", great, "z", ROOM, on -> on.link(1));
    }

    private static void refusedPack() {
        int[][] wrong = {{8, 100}, {17, 100}, {9, 39}, {9, 4001}, {-1, 100}, {9, -1}, {0, 0}};
        for (int[] numbers : wrong) {
            leavesAll("pack(" + numbers[0] + ", " + numbers[1] + ")", "tape", ARGUMENT,
                    on -> on.pack(numbers[0], numbers[1]));
        }
    }

    /** "-1: an owner or group above 262143 .. (both change nothing: the parts there were, ..)" */
    private static void packOfGreatOwners() {
        for (int which = 0; which < 2; which++) {
            Chain before = scene();
            Check.type(before, "n");
            before.add(1, 1, 0, which == 0 ? 262144 : 0, which == 1 ? 262144 : 0, 0);
            answersAndLeaves("pack(12, 40)", before, "", -1, on -> on.pack(12, 40));
        }
    }

    private static void refusedLooks() {
        leavesAll("part(0, 0)", "tape", INDEX, on -> on.part(0, 0));
        leavesAll("part(4, -1)", "tape", INDEX, on -> on.part(4, -1));
        leavesAll("part(1, -2)", "tape", INDEX, on -> on.part(1, -2));
        leavesAll("part(1, 9999)", "tape", INDEX, on -> on.part(1, 9999));
        leavesAll("stage(3, 0)", "tape", ARGUMENT, on -> on.stage(3, 0));
        leavesAll("stage(-1, 0)", "tape", ARGUMENT, on -> on.stage(-1, 0));
        leavesAll("about(2, 0, 0)", "tape", ARGUMENT, on -> on.about(2, 0, 0));
        leavesAll("about(0, 1, 6)", "tape", INDEX, on -> on.about(0, 1, 6));
        leavesAll("about(1, 10, 0)", "tape", INDEX, on -> on.about(1, 10, 0));
        leavesAll("byteOf(2, 0, 0)", "tape", ARGUMENT, on -> on.byteOf(2, 0, 0));
        leavesAll("byteOf(1, 4, 0)", "tape", INDEX, on -> on.byteOf(1, 4, 0));
        leavesAll("byteOf(0, 0, 1)", "tape", INDEX, on -> on.byteOf(0, 0, 1));
    }

    private static void tellsOfTape(int want, String tape) {
        answersAndLeaves("receive() of " + tape, scene(), tape, want, MailChain::receive);
    }

    /** "otherwise nothing happens but that it is told" */
    private static void toldReceive() {
        tellsOfTape(1, "");
        tellsOfTape(1, "PART 2 OF 3 SIZE 1 CKSUM 1220704766 \na");
        tellsOfTape(1, "PART 4 OF 3 SIZE 1 CKSUM 1220704766\na");
        tellsOfTape(2, "PART 2 OF 4 SIZE 1 CKSUM 1220704766\na");
        tellsOfTape(2, "PART 1 OF 1 SIZE 1 CKSUM 1220704766\na");
        tellsOfTape(3, "PART 1 OF 3 SIZE 1 CKSUM 1220704766\na");
        tellsOfTape(3, "PART 3 OF 3 SIZE 1 CKSUM 1220704766\na");
        tellsOfTape(4, "PART 2 OF 3 SIZE 2 CKSUM 1220704766\na");
        tellsOfTape(4, "PART 2 OF 3 SIZE 0 CKSUM 1220704766\na");
        tellsOfTape(5, "PART 2 OF 3 SIZE 1 CKSUM 1220704767\na");
        tellsOfTape(5, "PART 2 OF 3 SIZE 1 CKSUM 1220704766\nb");
        answersAndLeaves("receive() of no part", new Chain(), "PART", 1, MailChain::receive);
    }

    private static void toldPass() {
        Chain scene = scene();
        int line = scene.part(2, -1) - 100;
        answersAndLeaves("pass(2, 0, 1)", scene, "", 1, on -> on.pass(2, 0, 1));
        answersAndLeaves("part 2 of 3 as of 2", scene, "", 2, on -> on.pass(2, 10, 1));
        answersAndLeaves("pass(1, 0, 0)", scene, "", 3, on -> on.pass(1, 0, 0));
        answersAndLeaves("part 2 as 3", scene, "", 3, on -> on.pass(2, 5, 1));
        answersAndLeaves("size 100 as 101", scene, "", 4, on -> on.pass(2, 19, 1));
        answersAndLeaves("a byte of the piece", scene, "", 5, on -> on.pass(2, line, 1));
        scene.pack(9, 4000);
        answersAndLeaves("of another n", scene, "", 2, on -> on.pass(1, 0, 0));
    }

    private static void refusedPass() {
        leavesAll("pass(0, 0, 0)", "tape", INDEX, on -> on.pass(0, 0, 0));
        leavesAll("pass(4, 0, 0)", "tape", INDEX, on -> on.pass(4, 0, 0));
        leavesAll("pass(2, -1, 0)", "tape", INDEX, on -> on.pass(2, -1, 0));
        leavesAll("pass(2, 999, 0)", "tape", INDEX, on -> on.pass(2, 999, 0));
        leavesAll("pass(2, 0, -1)", "tape", ARGUMENT, on -> on.pass(2, 0, -1));
        leavesAll("pass(2, 0, 256)", "tape", ARGUMENT, on -> on.pass(2, 0, 256));
    }

    private static void refusesToForge(int what, int width) {
        leavesAllButTape("forge(" + what + ", " + width + ")", scene(), "tape", ARGUMENT, on -> {
            on.forge(what, width);
            return 0;
        });
    }

    /** "(the box stays then)" */
    private static void refusedForge() {
        refusesToForge(-1, 9);
        refusesToForge(3, 9);
        refusesToForge(0, 8);
        refusesToForge(0, 17);
        refusesToForge(0, -1);
    }

    /** "or what is wrong (then YOURS and the box stay as they were)" */
    private static void toldUnpackOfMissingParts() {
        answersAndLeaves("unpack() of 2 of 3", scene(), "", 6, MailChain::unpack);
        Chain none = scene();
        none.empty();
        answersAndLeaves("unpack() of none", none, "", 6, MailChain::unpack);
    }

    private static void toldUnpack() {
        String archive = Model.archive(new Model().mine);
        String entry = "070707000000000001100000000000000000000001000000000000000000000002"
                + "00000000001a\0x";
        String[] tapes = {"", archive.substring(1), entry + entry + archive, entry,
            entry + archive + "\0"};
        for (String tape : tapes) {
            for (int what = 0; what <= 2; what++) {
                Chain before = scene();
                Check.type(before, tape);
                before.forge(what, 9);
                answersAndLeaves("unpack() of " + what + ": " + tape, before, "", 9 - what,
                        MailChain::unpack);
            }
        }
    }
}
