/** Promises 4 to 6: add, link, clear. */
public final class EntryTest {
    private static final String SIXTY = "p".repeat(60);

    private EntryTest() {}

    public static void main(String[] args) {
        addMakesEntriesInOrder();
        addReadsTheTape();
        addJudgesNumbers();
        addJudgesPaths();
        addJudgesBodies();
        addNeedsDirectories();
        addRefusesThePathThereIs();
        addHasRoomForForty();
        addHasRoomForContents();
        addThrowsWhatIsNamedFirst();
        linkSharesAll();
        linkReadsTheTape();
        linkJudges();
        linkHasRoom();
        linkThrowsWhatIsNamedFirst();
        clearTakesAll();
        Check.end();
    }

    private static void addMakesEntriesInOrder() {
        MailChain chain = new MailChain();
        String[] paths = {"b", "\u00ff", "a.b", "a", "aa", "\u0001", "a/b", "Z", "a/a", "\u007f",
            "\u0080"};
        String[] order = {"\u0001", "Z", "a", "a.b", "a/a", "a/b", "aa", "b", "\u007f", "\u0080",
            "\u00ff"};
        for (int i = 0; i < paths.length; i++) {
            boolean directory = paths[i].equals("a");
            int count = directory ? Check.directory(chain, paths[i])
                    : Check.file(chain, paths[i], "of " + paths[i]);
            Check.due("add " + paths[i], count, i + 1);
        }
        for (int i = 0; i < order.length; i++) {
            Check.same("path " + i, Check.path(chain, 0, i), order[i]);
            Check.same("body " + i, Check.body(chain, 0, i), i == 2 ? "" : "of " + order[i]);
        }
    }

    private static void addReadsTheTape() {
        MailChain chain = new MailChain();
        Check.file(chain, "a", "x");
        Check.due("type behind add", chain.type('a', 1), 1);
        Check.noState("add a", () -> chain.add(1, 1, 0, 0, 0, 0));
        Check.due("type behind a state", chain.type('b', 1), 1);
        Check.refused("add, kind 3", () -> chain.add(3, 1, 0, 0, 0, 0));
        Check.due("type behind what is refused", chain.type('b', 1), 1);
        Check.refused("add, n 2", () -> chain.add(1, 2, 0, 0, 0, 0));
        Check.due("type behind what is refused", chain.type('b', 1), 1);
        chain.checksum();
        Check.typeRepeated(chain, "b", "12345678", 6000);
        Check.tooMuch("add b", () -> chain.add(1, 1, 0, 0, 0, 0));
        Check.due("type behind too much", chain.type('b', 1), 1);
    }

    private static void dueRefused(int kind, int n, int mode, int owner, int group, int time) {
        MailChain chain = new MailChain();
        Check.file(chain, "z", "zz");
        chain.type('a', 1);
        String call = "add(" + kind + ", " + n + ", " + mode + ", " + owner + ", " + group + ", "
                + time + ")";
        Check.refused(call, () -> chain.add(kind, n, mode, owner, group, time));
        Check.due("about behind " + call, chain.about(0, 0, 0), 1);
        Check.same("path behind " + call, Check.path(chain, 0, 0), "z");
        Check.same("body behind " + call, Check.body(chain, 0, 0), "zz");
    }

    private static void addJudgesNumbers() {
        dueRefused(-1, 1, 0, 0, 0, 0);
        dueRefused(3, 1, 0, 0, 0, 0);
        dueRefused(Integer.MIN_VALUE, 1, 0, 0, 0, 0);
        dueRefused(1, 0, 0, 0, 0, 0);
        dueRefused(1, -1, 0, 0, 0, 0);
        dueRefused(1, 2, 0, 0, 0, 0);
        dueRefused(1, Integer.MAX_VALUE, 0, 0, 0, 0);
        dueRefused(1, 1, -1, 0, 0, 0);
        dueRefused(1, 1, 4096, 0, 0, 0);
        dueRefused(1, 1, 0, -1, 0, 0);
        dueRefused(1, 1, 0, 0, -1, 0);
        dueRefused(1, 1, 0, 0, 0, -1);
        dueRefused(1, 1, 0, 0, 0, Integer.MIN_VALUE);
        MailChain chain = new MailChain();
        for (int kind : new int[] {-1, 3, 4, Integer.MAX_VALUE}) {
            Check.type(chain, "ab");
            Check.refused("kind " + kind + " with a body", () -> chain.add(kind, 1, 0, 0, 0, 0));
        }
        chain.type('a', 1);
        int most = Integer.MAX_VALUE;
        Check.due("add with the greatest", chain.add(1, 1, 4095, most, most, most), 1);
        Check.due("mode", chain.about(0, 2, 0), 4095);
        Check.due("owner", chain.about(0, 3, 0), most);
        Check.due("group", chain.about(0, 4, 0), most);
        Check.due("time", chain.about(0, 5, 0), most);
    }

    private static void addJudgesPaths() {
        String[] wrong = {".", "..", "/", "/a", "a/", "d//a", "d/.", "d/..", "./a", "../a",
            "d/./a", "d/../a", "\u0000", "a\u0000", "a\u0000b", "d/\u0000", "d/", "//"};
        String[] right = {"...", "....", ".a", "a.", "..a", "a..", ".b.", "d/...", "d/.a",
            "d/..a", "\n", " ", "d/ ", "\u00ff", "d/.. ", SIXTY};
        MailChain chain = new MailChain();
        Check.directory(chain, "d");
        for (String path : wrong) {
            Check.refused("add " + path, () -> Check.file(chain, path, ""));
        }
        Check.type(chain, SIXTY + "p");
        Check.refused("add, n 61", () -> chain.add(1, 61, 0, 0, 0, 0));
        int count = 1;
        for (String path : right) {
            count++;
            Check.due("add " + path, Check.file(chain, path, ""), count);
        }
    }

    private static void addJudgesBodies() {
        MailChain chain = new MailChain();
        Check.type(chain, "dx");
        Check.refused("a directory with content", () -> chain.add(0, 1, 0, 0, 0, 0));
        Check.due("a file without content", Check.file(chain, "e", ""), 1);
        Check.due("a file of a byte 0", Check.file(chain, "f", "\u0000"), 2);
        Check.refused("no target", () -> Check.symlink(chain, "s", ""));
        Check.refused("a target of 61", () -> Check.symlink(chain, "s", SIXTY + "p"));
        Check.refused("a target with 0", () -> Check.symlink(chain, "s", "a\u0000"));
        Check.due("a target of 1", Check.symlink(chain, "s", "."), 3);
        Check.due("a target of 60", Check.symlink(chain, "t", SIXTY), 4);
        Check.due("a target that is no path", Check.symlink(chain, "u", "//../"), 5);
        Check.same("target", Check.body(chain, 0, 2), ".");
        Check.same("target", Check.body(chain, 0, 3), SIXTY);
        Check.same("target", Check.body(chain, 0, 4), "//../");
        Check.due("kind", chain.about(0, 1, 2), 2);
    }

    private static void addNeedsDirectories() {
        MailChain chain = new MailChain();
        Check.file(chain, "f", "");
        Check.symlink(chain, "s", "d");
        Check.refused("in no directory", () -> Check.file(chain, "d/a", ""));
        Check.refused("in a file", () -> Check.file(chain, "f/a", ""));
        Check.refused("in a symlink", () -> Check.file(chain, "s/a", ""));
        Check.directory(chain, "d");
        Check.refused("in what is not there", () -> Check.directory(chain, "d/e/f"));
        Check.refused("in what begins so", () -> Check.directory(chain, "dd/e"));
        Check.due("in d", Check.directory(chain, "d/e"), 4);
        Check.due("in d/e", Check.directory(chain, "d/e/f"), 5);
        Check.due("in d/e/f", Check.file(chain, "d/e/f/g", ""), 6);
        Check.due("before it", Check.directory(chain, "d.e"), 7);
        Check.due("in d.e", Check.symlink(chain, "d.e/d", "x"), 8);
    }

    private static void addRefusesThePathThereIs() {
        MailChain chain = new MailChain();
        Check.directory(chain, "d");
        Check.file(chain, "d/a", "1");
        Check.symlink(chain, "s", "d");
        Check.noState("d", () -> Check.file(chain, "d", "x"));
        Check.noState("d/a", () -> Check.file(chain, "d/a", "x"));
        Check.noState("s", () -> Check.symlink(chain, "s", "x"));
        Check.due("count", chain.about(0, 0, 0), 3);
        Check.same("d/a", Check.body(chain, 0, 1), "1");
    }

    private static MailChain forty() {
        MailChain chain = new MailChain();
        for (int i = 0; i < 40; i++) {
            String path = "" + (char) ('A' + i);
            int count = i % 2 == 0 ? Check.file(chain, path, path) : Check.directory(chain, path);
            Check.due("add " + path, count, i + 1);
        }
        return chain;
    }

    private static void addHasRoomForForty() {
        MailChain chain = forty();
        Check.tooMuch("entry 41", () -> Check.file(chain, "x", ""));
        Check.tooMuch("entry 41", () -> Check.directory(chain, "!"));
        Check.tooMuch("entry 41, a link", () -> Check.link(chain, 0, "x"));
        Check.refused("entry 41, wrong", () -> Check.file(chain, ".", ""));
        Check.noState("entry 41, there is", () -> Check.file(chain, "A", ""));
        Check.due("count", chain.about(0, 0, 0), 40);
        Check.same("path 39", Check.path(chain, 0, 39), "" + (char) ('A' + 39));
        Check.same("body 38", Check.body(chain, 0, 38), "" + (char) ('A' + 38));
    }

    private static void addHasRoomForContents() {
        MailChain chain = new MailChain();
        Check.typeRepeated(chain, "a", "12345678", 6001);
        Check.tooMuch("6001 bytes", () -> chain.add(1, 1, 0, 0, 0, 0));
        Check.typeRepeated(chain, "a", "12345678", 5999);
        Check.due("5999 bytes", chain.add(1, 1, 0, 0, 0, 0), 1);
        Check.tooMuch("6001 bytes in two", () -> Check.file(chain, "b", "xy"));
        Check.due("6000 bytes in two", Check.file(chain, "b", "x"), 2);
        Check.tooMuch("6001 bytes in three", () -> Check.file(chain, "c", "x"));
        Check.due("no byte more", Check.file(chain, "c", ""), 3);
        Check.due("a target is none", Check.symlink(chain, "s", SIXTY), 4);
        Check.due("a directory has none", Check.directory(chain, "d"), 5);
        Check.same("b", Check.body(chain, 0, 1), "x");
        Check.due("a's last byte", chain.byteOf(0, 0, 5999), '7');
    }

    private static void addThrowsWhatIsNamedFirst() {
        MailChain chain = new MailChain();
        Check.typeRepeated(chain, "a", "12345678", 6000);
        chain.add(1, 1, 0, 0, 0, 0);
        Check.typeRepeated(chain, "a", "12345678", 6001);
        Check.noState("there is, and too much", () -> chain.add(1, 1, 0, 0, 0, 0));
        Check.typeRepeated(chain, "a", "12345678", 6001);
        Check.refused("wrong, there is, and too much", () -> chain.add(1, 1, 4096, 0, 0, 0));
        Check.typeRepeated(chain, "a/b", "12345678", 6001);
        Check.refused("wrong, and too much", () -> chain.add(1, 3, 0, 0, 0, 0));
    }

    private static void linkSharesAll() {
        MailChain chain = new MailChain();
        Check.file(chain, "z", "first");
        Check.directory(chain, "d");
        Check.type(chain, "mcontent");
        chain.add(1, 1, 0123, 4, 5, 6);
        Check.due("link d/x", Check.link(chain, 1, "d/x"), 4);
        Check.due("link a, of the link", Check.link(chain, 1, "a"), 5);
        Check.due("another file", Check.file(chain, "n", "content"), 6);
        for (int i : new int[] {0, 2, 3}) {
            Check.due("kind", chain.about(0, 1, i), 1);
            Check.due("mode", chain.about(0, 2, i), 0123);
            Check.due("owner", chain.about(0, 3, i), 4);
            Check.due("group", chain.about(0, 4, i), 5);
            Check.due("time", chain.about(0, 5, i), 6);
            Check.same("body", Check.body(chain, 0, i), "content");
            Check.due("first", chain.about(0, 8, i), 0);
            Check.due("links", chain.about(0, 9, i), 3);
        }
        Check.due("first of d", chain.about(0, 8, 1), 1);
        Check.due("links of d", chain.about(0, 9, 1), 1);
        Check.due("first of n", chain.about(0, 8, 4), 4);
        Check.due("links of n", chain.about(0, 9, 4), 1);
        Check.same("path", Check.path(chain, 0, 2), "d/x");
    }

    private static void linkReadsTheTape() {
        MailChain chain = new MailChain();
        Check.file(chain, "a", "x");
        Check.link(chain, 0, "b");
        Check.due("type behind link", chain.type('b', 1), 1);
        Check.noState("link b", () -> chain.link(0));
        Check.due("type behind a state", chain.type('c', 1), 1);
        Check.noIndex("link(2)", () -> chain.link(2));
        Check.due("type behind no index", chain.type('.', 1), 1);
        Check.refused("link .", () -> chain.link(0));
        Check.due("type behind what is refused", chain.type('c', 1), 1);
    }

    private static void linkJudges() {
        MailChain chain = new MailChain();
        Check.noIndex("link(0), empty", () -> Check.link(chain, 0, "a"));
        Check.directory(chain, "d");
        Check.file(chain, "f", "x");
        Check.symlink(chain, "s", "f");
        Check.noIndex("link(-1)", () -> Check.link(chain, -1, "a"));
        Check.noIndex("link(3)", () -> Check.link(chain, 3, "a"));
        Check.noIndex("link(MIN)", () -> Check.link(chain, Integer.MIN_VALUE, "a"));
        Check.noIndex("link(MAX)", () -> Check.link(chain, Integer.MAX_VALUE, "a"));
        Check.refused("link of a directory", () -> Check.link(chain, 0, "a"));
        Check.refused("link of a symlink", () -> Check.link(chain, 2, "a"));
        for (String path : new String[] {"", ".", "..", "/a", "a/", "a\u0000", "x/a", "f/a",
            "s/a", "d//a", SIXTY + "p", "p".repeat(8000)}) {
            if (path.length() < 100) {
                Check.refused("link " + path, () -> Check.link(chain, 1, path));
            } else {
                Check.typeRepeated(chain, "", "pppppppp", path.length());
                Check.refused("a long link", () -> chain.link(1));
            }
        }
        Check.due("a path of 60", Check.link(chain, 1, SIXTY), 4);
        Check.noState("of itself", () -> Check.link(chain, 1, "f"));
        Check.noState("a directory's path", () -> Check.link(chain, 1, "d"));
        Check.due("count", chain.about(0, 0, 0), 4);
    }

    private static void linkHasRoom() {
        MailChain chain = new MailChain();
        Check.typeRepeated(chain, "a", "12345678", 2000);
        chain.add(1, 1, 0, 0, 0, 0);
        Check.due("4000 bytes", Check.link(chain, 0, "b"), 2);
        Check.due("6000 bytes", Check.link(chain, 1, "c"), 3);
        Check.tooMuch("8000 bytes", () -> Check.link(chain, 0, "d"));
        Check.tooMuch("6001 bytes", () -> Check.file(chain, "d", "x"));
        Check.due("no byte", Check.file(chain, "d", ""), 4);
        Check.due("a link of no byte", Check.link(chain, 3, "e"), 5);
    }

    private static void linkThrowsWhatIsNamedFirst() {
        MailChain chain = new MailChain();
        Check.typeRepeated(chain, "a", "12345678", 6000);
        chain.add(1, 1, 0, 0, 0, 0);
        Check.directory(chain, "d");
        Check.noIndex("no index, no path", () -> Check.link(chain, 2, "."));
        Check.refused("no file, there is", () -> Check.link(chain, 1, "a"));
        Check.noState("there is, and too much", () -> Check.link(chain, 0, "d"));
        Check.tooMuch("too much", () -> Check.link(chain, 0, "e"));
    }

    private static void clearTakesAll() {
        MailChain chain = forty();
        int parts = chain.pack(12, 100);
        String first = Check.part(chain, 1);
        String compressed = Check.stage(chain, 1);
        Check.due("clear()", chain.clear(), 40);
        Check.due("about", chain.about(0, 0, 0), 0);
        Check.due("clear() again", chain.clear(), 0);
        Check.noIndex("about", () -> chain.about(0, 1, 0));
        Check.due("the parts stay", chain.part(parts, -1) > 0 ? 1 : 0, 1);
        Check.same("part 1 stays", Check.part(chain, 1), first);
        Check.same("stage 1 stays", Check.stage(chain, 1), compressed);
        Check.due("stage 0 is the archive of nothing", chain.stage(0, 87), -1);
        Check.typeRepeated(chain, "a", "12345678", 6000);
        Check.due("all room is there", chain.add(1, 1, 0, 0, 0, 0), 1);
        Check.due("its links", chain.about(0, 9, 0), 1);
        chain.clear();
        Check.typeRepeated(chain, "b", "abcdefgh", 6000);
        Check.due("and again", chain.add(1, 1, 0, 0, 0, 0), 1);
        Check.due("its last byte", chain.byteOf(0, 0, 6000), 'h');
        MailChain typed = new MailChain();
        typed.type('a', 1);
        typed.clear();
        Check.due("clear leaves the tape", typed.type('b', 1), 2);
    }
}
