/** Promises 4 to 6 (add, link, clear), and of the terms paths, entries, targets and trees. */
public final class EntryTest {
    private static final String SIXTY = "p".repeat(60);
    private static final int MIN = Integer.MIN_VALUE;
    private static final int MAX = Integer.MAX_VALUE;
    /** The ways to make an entry; the first three are kinds. */
    private static final int FILE = 1;
    private static final int SYMLINK = 2;
    private static final int LINK = 3;
    private static final int WAYS = 4;

    private EntryTest() {}

    public static void main(String[] args) {
        pathsHaveOneToSixtyBytes();
        pathsHaveNoByteZero();
        namesHaveBytes();
        namesAreNoDots();
        pathsAreOfDirectories();
        noTwoPathsAreTheSame();
        targetsHaveOneToSixtyBytes();
        targetsHaveNoByteZero();
        kindsHaveBounds();
        modesHaveBounds();
        ownersAndGroupsHaveBounds();
        timesHaveBounds();
        firstBytesArePath();
        directoriesHaveNoContent();
        filesHaveAnyContent();
        entriesAreInOrder();
        shorterPathsComeFirst();
        refusedPathsHaveNoOrder();
        treesHaveFortyEntries();
        treesHaveSixThousandBytes();
        targetsAreNoContents();
        linksAreContentsEachTime();
        linkIsOfAnEntry();
        linkIsOfAFile();
        linksHaveAllInCommon();
        linkOfNoContent();
        clearTakesAll();
        clearOfNothing();
        clearGivesRoom();
        clearLeavesTheRest();
        Check.end();
    }

    /** Entries d, d/e (directories), f (a file), s (a symlink). */
    private static Chain someEntries() {
        Chain chain = new Chain();
        Check.directory(chain, "d");
        Check.directory(chain, "d/e");
        Check.file(chain, "f", "12");
        Check.symlink(chain, "s", "d");
        return chain;
    }

    private static int enter(Chain chain, int way, String path) {
        if (way == LINK) {
            return Check.link(chain, indexOf(chain, "f"), path);
        }
        Check.type(chain, path + (way == FILE ? "xy" : way == SYMLINK ? "t" : ""));
        return chain.add(way, path.length(), 0, 0, 0, 0);
    }

    private static int indexOf(Chain chain, String path) {
        int i = 0;
        while (i < chain.about(0, 0, 0) && !Check.path(chain, 0, i).equals(path)) {
            i++;
        }
        return i;
    }

    private static void takesPath(String path) {
        for (int way = 0; way < WAYS; way++) {
            Chain chain = someEntries();
            Check.due("way " + way + " to " + path, enter(chain, way, path), 5);
            int i = indexOf(chain, path);
            Check.due("its index is one", i < 5 ? 1 : 0, 1);
            Check.due("its kind", chain.about(0, 1, i), way == LINK ? FILE : way);
        }
    }

    private static void refusesPath(String path) {
        for (int way = 0; way < WAYS; way++) {
            Chain chain = someEntries();
            int asked = way;
            Check.refused("way " + way + " to " + path, () -> enter(chain, asked, path));
            Check.due("entries", chain.about(0, 0, 0), 4);
        }
    }

    /** "A PATH has 1 to 60 bytes" */
    private static void pathsHaveOneToSixtyBytes() {
        takesPath("a");
        takesPath(SIXTY.substring(1));
        takesPath(SIXTY);
        takesPath("d/" + SIXTY.substring(2));
        refusesPath("");
        refusesPath(SIXTY + "p");
        refusesPath("d/" + SIXTY.substring(1));
        refusesPath(SIXTY.repeat(2));
    }

    /** ".. none of them 0" */
    private static void pathsHaveNoByteZero() {
        takesPath("\u0001");
        takesPath("\u00ff");
        takesPath("\n \u007f\u0080");
        for (String path : new String[] {"\0", "a\0", "\0a", "a\0b", "d/\0", "d/a\0", "d\0/a"}) {
            refusesPath(path);
        }
        refusesPath("p".repeat(59) + "\0");
    }

    /** "NAMES with bytes 47 between them, each of at least one byte" */
    private static void namesHaveBytes() {
        takesPath("d/a");
        takesPath("d/e/a");
        for (String path : new String[] {"/", "//", "/a", "/d", "a/", "d/", "f/", "d//", "d//a",
            "d/e/", "d/e//a", "//d", "/d/a"}) {
            refusesPath(path);
        }
    }

    /** ".. none of them . or .. alone." */
    private static void namesAreNoDots() {
        for (String path : new String[] {"...", "....", ".a", "a.", "..a", "a..", ". ", " .",
            "d/...", "d/.a", "d/a.", "d/..a", "d/e/a..", "d/. "}) {
            takesPath(path);
        }
        for (String path : new String[] {".", "..", "d/.", "d/..", "./a", "../a", "./d", "d/./a",
            "d/../a", "d/e/.", "d/e/..", "./.", "../.."}) {
            refusesPath(path);
        }
    }

    /** "what stands before the last 47 of a path is the path of a directory" */
    private static void pathsAreOfDirectories() {
        takesPath("d/f");
        takesPath("d/e/f");
        refusesPath("x/a");
        refusesPath("f/a");
        refusesPath("s/a");
        refusesPath("d/x/a");
        refusesPath("dd/a");
        refusesPath("e/a");
        refusesPath("d/e/x/a");
        Chain chain = someEntries();
        Check.link(chain, 2, "l");
        Check.refused("in a link", () -> Check.file(chain, "l/a", ""));
        Check.directory(chain, "x");
        Check.due("in what is there now", Check.file(chain, "x/a", ""), 7);
        chain.clear();
        Check.refused("in what has gone", () -> Check.file(chain, "x/b", ""));
    }

    /** "no two the same"; "IllegalStateException when there is an entry of this path" */
    private static void noTwoPathsAreTheSame() {
        for (String path : new String[] {"d", "d/e", "f", "s"}) {
            for (int way = 0; way < WAYS; way++) {
                Chain chain = someEntries();
                int asked = way;
                Check.noState("way " + way + " to " + path, () -> enter(chain, asked, path));
                Check.due("entries", chain.about(0, 0, 0), 4);
                Check.same("the content of f", Check.body(chain, 0, 2), "12");
            }
        }
        takesPath("D");
        takesPath("d ");
        takesPath("ff");
        Chain chain = someEntries();
        chain.clear();
        Check.due("what has gone", Check.file(chain, "f", ""), 1);
    }

    /** "a TARGET of 1 to 60 bytes" */
    private static void targetsHaveOneToSixtyBytes() {
        Chain chain = new Chain();
        Check.refused("a target of 0", () -> Check.symlink(chain, "s", ""));
        Check.refused("a target of 61", () -> Check.symlink(chain, "s", SIXTY + "t"));
        Check.refused("a target of 6001",
                () -> Check.symlink(chain, "s", Check.repeat("t", 6001)));
        Check.due("a target of 1", Check.symlink(chain, "s", "t"), 1);
        Check.due("a target of 60", Check.symlink(chain, "t", SIXTY), 2);
        Check.due("a target of 60 behind a path of 60", Check.symlink(chain, SIXTY, SIXTY), 3);
        Check.same("target of s", Check.body(chain, 0, 1), "t");
        Check.same("target of t", Check.body(chain, 0, 2), SIXTY);
        Check.same("target of p..", Check.body(chain, 0, 0), SIXTY);
    }

    /** ".. none of them 0": of a target nothing else is asked. */
    private static void targetsHaveNoByteZero() {
        for (String target : new String[] {"\0", "a\0", "\0a", "a\0b", SIXTY.substring(1) + "\0"}) {
            Chain chain = new Chain();
            Check.refused("target " + target, () -> Check.symlink(chain, "s", target));
            Check.due("entries", chain.about(0, 0, 0), 0);
        }
        for (String target : new String[] {"\u0001", "\u00ff", "/", "//", ".", "..", "a/", "s"}) {
            Chain chain = new Chain();
            Check.due("target " + target, Check.symlink(chain, "s", target), 1);
            Check.same("target", Check.body(chain, 0, 0), target);
        }
    }

    private static void adds(int kind, int mode, int owner, int group, int time) {
        Chain chain = new Chain();
        Check.type(chain, kind == SYMLINK ? "at" : "a");
        Check.due("add", chain.add(kind, 1, mode, owner, group, time), 1);
        int[] want = {kind, mode, owner, group, time};
        for (int what = 1; what <= 5; what++) {
            Check.due("about(0, " + what + ", 0)", chain.about(0, what, 0), want[what - 1]);
        }
    }

    private static void refuses(int kind, int mode, int owner, int group, int time) {
        for (String tape : new String[] {"a", "at"}) {
            Chain chain = new Chain();
            Check.type(chain, tape);
            Check.refused("add(" + kind + ", 1, " + mode + ", " + owner + ", " + group + ", "
                    + time + ")", () -> chain.add(kind, 1, mode, owner, group, time));
            Check.due("entries", chain.about(0, 0, 0), 0);
        }
    }

    /** "a DIRECTORY (kind 0), a FILE (1) .., or a SYMLINK (2)" */
    private static void kindsHaveBounds() {
        for (int kind = 0; kind <= 2; kind++) {
            adds(kind, 1, 2, 3, 4);
        }
        for (int kind : new int[] {-1, 3, 4, 256, 257, MIN, MAX}) {
            refuses(kind, 0, 0, 0, 0);
        }
    }

    /** "a MODE 0 .. 4095" */
    private static void modesHaveBounds() {
        for (int kind = 0; kind <= 2; kind++) {
            adds(kind, 0, 1, 1, 1);
            adds(kind, 4095, 1, 1, 1);
            refuses(kind, -1, 0, 0, 0);
            refuses(kind, 4096, 0, 0, 0);
        }
        refuses(1, MIN, 0, 0, 0);
        refuses(1, MAX, 0, 0, 0);
    }

    /** "an OWNER and a GROUP (0 .. 2147483647)" */
    private static void ownersAndGroupsHaveBounds() {
        for (int kind = 0; kind <= 2; kind++) {
            adds(kind, 1, 0, 1, 1);
            adds(kind, 1, MAX, 1, 1);
            adds(kind, 1, 1, 0, 1);
            adds(kind, 1, 1, MAX, 1);
            refuses(kind, 0, -1, 0, 0);
            refuses(kind, 0, 0, -1, 0);
        }
        refuses(1, 0, MIN, 0, 0);
        refuses(1, 0, 0, MIN, 0);
    }

    /** "a TIME (0 .. 2147483647)" */
    private static void timesHaveBounds() {
        for (int kind = 0; kind <= 2; kind++) {
            adds(kind, 1, 1, 1, 0);
            adds(kind, 1, 1, 1, MAX);
            refuses(kind, 0, 0, 0, -1);
        }
        refuses(1, 0, 0, 0, MIN);
    }

    private static void refusesFirst(String tape, int n) {
        Chain chain = new Chain();
        Check.type(chain, tape);
        Check.refused("n " + n + " of " + tape.length(), () -> chain.add(1, n, 0, 0, 0, 0));
        Check.due("entries", chain.about(0, 0, 0), 0);
    }

    private static void takesFirst(String tape, int n) {
        Chain chain = new Chain();
        Check.type(chain, tape);
        Check.due("n " + n + " of " + tape.length(), chain.add(1, n, 0, 0, 0, 0), 1);
        Check.same("path", Check.path(chain, 0, 0), tape.substring(0, n));
        Check.same("content", Check.body(chain, 0, 0), tape.substring(n));
    }

    /** "the first n bytes of the tape are its path"; "n (1 .. 60, the tape has so many)" */
    private static void firstBytesArePath() {
        takesFirst("a", 1);
        takesFirst("abc", 1);
        takesFirst("abc", 2);
        takesFirst("abc", 3);
        takesFirst(SIXTY, 60);
        takesFirst(SIXTY + "x", 60);
        takesFirst(SIXTY, 59);
        refusesFirst("", 0);
        refusesFirst("", 1);
        refusesFirst("abc", 0);
        refusesFirst("abc", -1);
        refusesFirst("abc", 4);
        refusesFirst("abc", 60);
        refusesFirst(SIXTY.substring(1), 60);
        refusesFirst(SIXTY + "x", 61);
        refusesFirst(SIXTY, 61);
        refusesFirst("abc", MIN);
        refusesFirst("abc", MAX);
    }

    /** "a directory would have content" */
    private static void directoriesHaveNoContent() {
        Chain chain = new Chain();
        Check.type(chain, "d");
        Check.due("no byte behind the path", chain.add(0, 1, 0, 0, 0, 0), 1);
        Check.type(chain, "ex");
        Check.refused("a byte behind the path", () -> chain.add(0, 1, 0, 0, 0, 0));
        Check.type(chain, "e\0");
        Check.refused("a byte 0 behind the path", () -> chain.add(0, 1, 0, 0, 0, 0));
        Check.due("content of d", chain.about(0, 7, 0), 0);
    }

    private static void filesHaveAnyContent() {
        Chain chain = new Chain();
        Check.due("no byte", Check.file(chain, "a", ""), 1);
        Check.due("a byte 0", Check.file(chain, "b", "\0"), 2);
        Check.due("a byte 255", Check.file(chain, "c", "\u00ff"), 3);
        Check.due("61 bytes", Check.file(chain, "d", SIXTY + "x"), 4);
        Check.same("a", Check.body(chain, 0, 0), "");
        Check.same("b", Check.body(chain, 0, 1), "\0");
        Check.same("c", Check.body(chain, 0, 2), "\u00ff");
        Check.same("d", Check.body(chain, 0, 3), SIXTY + "x");
    }

    private static void dueOrder(String[] paths, String... order) {
        for (int way : new int[] {FILE, LINK}) {
            Chain chain = new Chain();
            Check.file(chain, "f", "content");
            Check.directory(chain, "a");
            for (String path : paths) {
                enter(chain, way, path);
            }
            for (int i = 0; i < order.length; i++) {
                Check.same("path " + i, Check.path(chain, 0, i), order[i]);
            }
            Check.due("entries", chain.about(0, 0, 0), order.length);
        }
    }

    /** "THE ORDER of entries is that of their paths, byte by byte (0 .. 255)" */
    private static void entriesAreInOrder() {
        dueOrder(
                new String[] {"\u00ff", "\u0080", "\u007f", "Z", "\u0001", "\u0002", "b", "\u00fe"},
                "\u0001", "\u0002", "Z", "a", "b", "f", "\u007f", "\u0080", "\u00fe", "\u00ff");
        dueOrder(new String[] {"f\u00ff", "f\u0001", "f\u0080", "e\u00ff", "g\u0001"},
                "a", "e\u00ff", "f", "f\u0001", "f\u0080", "f\u00ff", "g\u0001");
        String[] order = new String[11];
        String[] paths = new String[9];
        order[0] = "a";
        order[10] = "f";
        for (int i = 1; i < 10; i++) {
            order[i] = "b" + i;
            paths[i * 7 % 9] = "b" + i;
        }
        dueOrder(paths, order);
    }

    /** ".. a shorter one before one that goes on." The byte 47 is one as the others. */
    private static void shorterPathsComeFirst() {
        dueOrder(new String[] {"a/b", "a.", "a0", "aa", "a\u0001", "ff", "a/a"},
                "a", "a\u0001", "a.", "a/a", "a/b", "a0", "aa", "f", "ff");
        dueOrder(new String[] {SIXTY, SIXTY.substring(1), "p"}, "a", "f", "p",
                SIXTY.substring(1), SIXTY);
    }

    /** Nothing of a longer path that was refused counts when a shorter one is compared. */
    private static void refusedPathsHaveNoOrder() {
        for (String tail : new String[] {"zzz/b", "!!!/b"}) {
            Chain chain = new Chain();
            Check.file(chain, "ab", "");
            Check.refused("a" + tail, () -> Check.file(chain, "a" + tail, ""));
            Check.due("a", Check.file(chain, "a", ""), 2);
            Check.refused("ab" + tail, () -> Check.file(chain, "ab" + tail, ""));
            Check.noState("ab", () -> Check.file(chain, "ab", ""));
            Check.refused("abc" + tail, () -> Check.file(chain, "abc" + tail, ""));
            Check.due("abc", Check.file(chain, "abc", ""), 3);
            String[] order = {"a", "ab", "abc"};
            for (int i = 0; i < 3; i++) {
                Check.same("path " + i, Check.path(chain, 0, i), order[i]);
            }
        }
    }

    private static Chain forty() {
        Chain chain = new Chain();
        for (int i = 0; i < 40; i++) {
            String path = "" + (char) ('A' + i);
            int count = i % 2 == 1 ? Check.file(chain, path, path) : Check.directory(chain, path);
            Check.due("add " + path, count, i + 1);
        }
        return chain;
    }

    /** "each has at most 40 entries"; "UnsupportedOperationException when .. too many entries" */
    private static void treesHaveFortyEntries() {
        Chain chain = forty();
        Check.tooMuch("entry 41, a directory", () -> Check.directory(chain, "!"));
        Check.tooMuch("entry 41, a file", () -> Check.file(chain, "z", ""));
        Check.tooMuch("entry 41, a symlink", () -> Check.symlink(chain, "A/a", "t"));
        Check.tooMuch("entry 41, a link", () -> Check.link(chain, 1, "z"));
        Check.due("entries", chain.about(0, 0, 0), 40);
        for (int i = 0; i < 40; i++) {
            Check.same("path " + i, Check.path(chain, 0, i), "" + (char) ('A' + i));
        }
        for (int way = 0; way < WAYS; way++) {
            Chain other = new Chain();
            Check.file(other, "f", "");
            for (int i = 1; i < 40; i++) {
                Check.due("entry " + (i + 1), enter(other, way, "g" + (char) i), i + 1);
            }
            int asked = way;
            Check.tooMuch("entry 41", () -> enter(other, asked, "z"));
        }
    }

    /** ".. and 6000 bytes of contents"; ".. when there would be too many .. bytes." */
    private static void treesHaveSixThousandBytes() {
        Chain one = new Chain();
        Check.tooMuch("6001 bytes", () -> Check.file(one, "a", Check.repeat("12345678", 6001)));
        Check.tooMuch("7999 bytes", () -> Check.file(one, "a", Check.repeat("12345678", 7999)));
        Check.due("entries", one.about(0, 0, 0), 0);
        Check.due("6000 bytes", Check.file(one, "a", Check.repeat("12345678", 6000)), 1);
        Check.due("a's last byte", one.byteOf(0, 0, 6000), '8');
        Check.tooMuch("6001 bytes in two", () -> Check.file(one, "b", "x"));
        Check.due("no byte more", Check.file(one, "b", ""), 2);
        Chain two = new Chain();
        Check.due("5998 bytes", Check.file(two, "a", Check.repeat("12345678", 5998)), 1);
        Check.tooMuch("6001 bytes in two", () -> Check.file(two, "b", "xyz"));
        Check.due("5999 bytes in two", Check.file(two, "b", "x"), 2);
        Check.tooMuch("6001 bytes in three", () -> Check.file(two, "c", "xy"));
        Check.due("6000 bytes in three", Check.file(two, "c", "y"), 3);
        Check.tooMuch("6001 bytes in four", () -> Check.file(two, "d", "x"));
        Check.same("b", Check.body(two, 0, 1), "x");
        Check.same("c", Check.body(two, 0, 2), "y");
    }

    /** "targets are none": neither are directories'. */
    private static void targetsAreNoContents() {
        Chain chain = new Chain();
        Check.due("a target", Check.symlink(chain, "s", SIXTY), 1);
        Check.due("6000 bytes", Check.file(chain, "a", Check.repeat("12345678", 6000)), 2);
        for (int i = 0; i < 37; i++) {
            String path = "t" + (char) (i + 1);
            Check.due("a target more", Check.symlink(chain, path, SIXTY), 3 + i);
        }
        Check.due("a directory", Check.directory(chain, "z"), 40);
        Check.same("the last target", Check.body(chain, 0, 38), SIXTY);
        Check.due("a's last byte", chain.byteOf(0, 0, 6000), '8');
    }

    /** "those of links each time" */
    private static void linksAreContentsEachTime() {
        Chain chain = new Chain();
        Check.file(chain, "a", Check.repeat("12345678", 2000));
        Check.due("4000 bytes", Check.link(chain, 0, "b"), 2);
        Check.due("6000 bytes", Check.link(chain, 1, "c"), 3);
        Check.tooMuch("8000 bytes", () -> Check.link(chain, 0, "d"));
        Check.tooMuch("6001 bytes", () -> Check.file(chain, "d", "x"));
        Check.due("no byte", Check.file(chain, "d", ""), 4);
        Check.due("a link of no byte", Check.link(chain, 3, "e"), 5);
        Chain odd = new Chain();
        Check.file(odd, "a", Check.repeat("12345678", 3000));
        Check.file(odd, "b", "x");
        Check.tooMuch("6001 bytes", () -> Check.link(odd, 0, "c"));
        Check.due("3002 bytes", Check.link(odd, 1, "c"), 3);
        Check.due("links of a", odd.about(0, 9, 0), 1);
    }

    /** "the i-th entry (from 0, in order)"; "IndexOutOfBoundsException when .. no such entry" */
    private static void linkIsOfAnEntry() {
        Chain none = new Chain();
        Check.noIndex("link(0), empty", () -> Check.link(none, 0, "a"));
        Chain chain = new Chain();
        Check.file(chain, "x", "first");
        Check.file(chain, "b", "second");
        for (int i : new int[] {-1, 2, 3, 40, 41, MIN, MAX}) {
            Check.noIndex("link(" + i + ")", () -> Check.link(chain, i, "a"));
        }
        Check.due("entries", chain.about(0, 0, 0), 2);
        Check.due("link(1)", Check.link(chain, 1, "y"), 3);
        Check.same("y", Check.body(chain, 0, 2), "first");
        Check.due("link(0)", Check.link(chain, 0, "a"), 4);
        Check.same("a", Check.body(chain, 0, 0), "second");
        chain.clear();
        Check.noIndex("link(0) behind clear", () -> Check.link(chain, 0, "a"));
    }

    /** "IllegalArgumentException when that is no file" */
    private static void linkIsOfAFile() {
        Chain chain = someEntries();
        Check.refused("link of a directory", () -> Check.link(chain, 0, "a"));
        Check.refused("link of a directory", () -> Check.link(chain, 1, "a"));
        Check.refused("link of a symlink", () -> Check.link(chain, 3, "a"));
        Check.due("entries", chain.about(0, 0, 0), 4);
        Check.due("link of a file", Check.link(chain, 2, "l"), 5);
        Check.due("link of a link", Check.link(chain, indexOf(chain, "l"), "m"), 6);
    }

    /** "several files may be LINKS of one another: they have content and all of these in common" */
    private static void linksHaveAllInCommon() {
        Chain chain = new Chain();
        Check.file(chain, "z", "content");
        Check.directory(chain, "d");
        Check.type(chain, "mcontent");
        chain.add(1, 1, 0123, 4, 5, 6);
        Check.due("link d/x", Check.link(chain, 1, "d/x"), 4);
        Check.due("link a, of the link", Check.link(chain, 1, "a"), 5);
        Check.due("a file like them", Check.file(chain, "n", "content"), 6);
        for (int i : new int[] {0, 2, 3}) {
            int[] want = {1, 0123, 4, 5, 6, i == 2 ? 3 : 1, 7, 0, 3};
            for (int what = 1; what <= 9; what++) {
                Check.due("about(0, " + what + ", " + i + ")", chain.about(0, what, i),
                        want[what - 1]);
            }
            Check.same("body", Check.body(chain, 0, i), "content");
        }
        int[] first = {0, 1, 0, 0, 4, 5};
        int[] links = {3, 1, 3, 3, 1, 1};
        for (int i = 0; i < 6; i++) {
            Check.due("first of " + i, chain.about(0, 8, i), first[i]);
            Check.due("links of " + i, chain.about(0, 9, i), links[i]);
        }
    }

    /** Files of no content are links of one another only if they were made so. */
    private static void linkOfNoContent() {
        Chain chain = new Chain();
        Check.file(chain, "a", "");
        Check.file(chain, "b", "");
        Check.link(chain, 1, "c");
        Check.file(chain, "d", "");
        int[] first = {0, 1, 1, 3};
        int[] links = {1, 2, 2, 1};
        for (int i = 0; i < 4; i++) {
            Check.due("first of " + i, chain.about(0, 8, i), first[i]);
            Check.due("links of " + i, chain.about(0, 9, i), links[i]);
        }
    }

    /** "All entries of MINE go ..: how many there were." */
    private static void clearTakesAll() {
        Chain chain = forty();
        Check.due("clear()", chain.clear(), 40);
        Check.due("about", chain.about(0, 0, 0), 0);
        Check.noIndex("about", () -> chain.about(0, 1, 0));
        Check.noIndex("byteOf", () -> chain.byteOf(0, 0, 0));
        Check.same("the archive", Check.stage(chain, 0), Model.archive(new Model().mine));
        Check.due("clear() again", chain.clear(), 0);
    }

    private static void clearOfNothing() {
        Check.due("clear()", new Chain().clear(), 0);
        Chain chain = new Chain();
        Check.file(chain, "a", "x");
        Check.due("clear() of one", chain.clear(), 1);
    }

    private static void clearGivesRoom() {
        Chain chain = forty();
        chain.clear();
        Check.file(chain, "f", "");
        for (int i = 1; i < 40; i++) {
            Check.due("entry " + (i + 1), enter(chain, LINK, "g" + (char) i), i + 1);
        }
        Check.due("links", chain.about(0, 9, 0), 40);
        chain.clear();
        Check.due("6000 bytes", Check.file(chain, "a", Check.repeat("12345678", 6000)), 1);
        Check.due("links", chain.about(0, 9, 0), 1);
        chain.clear();
        Check.due("6000 others", Check.file(chain, "b", Check.repeat("abcdefgh", 6000)), 1);
        Check.due("the last byte", chain.byteOf(0, 0, 6000), 'h');
    }

    /** "(parts and what was made of it stay)", and so do YOURS, the box and the tape. */
    private static void clearLeavesTheRest() {
        Chain chain = someEntries();
        int parts = chain.pack(12, 150);
        for (int k = 1; k <= parts; k++) {
            chain.pass(k, 0, 0);
        }
        Check.due("unpack()", chain.unpack(), 0);
        chain.pass(parts, 0, 0);
        chain.type('t', 1);
        Chain before = chain.copy();
        Check.due("clear()", chain.clear(), 4);
        for (int k = 1; k <= parts; k++) {
            Check.same("part " + k, Check.part(chain, k), Check.part(before, k));
        }
        Check.noIndex("no part more", () -> chain.part(parts + 1, -1));
        Check.same("stage 1", Check.stage(chain, 1), Check.stage(before, 1));
        Check.same("stage 2", Check.stage(chain, 2), Check.stage(before, 2));
        Check.due("YOURS", chain.about(1, 0, 0), 4);
        Check.same("the content of f", Check.body(chain, 1, 2), "12");
        Check.due("the tape", chain.type('t', 1), 2);
        Check.due("the box", chain.pass(parts, 0, 0), 3);
    }
}
