/** Promises 1 to 3 and 10 (a new object, type, again, checksum), and of the terms THE CHECKSUM. */
public final class TapeTest {
    private static final int MIN = Integer.MIN_VALUE;
    private static final int MAX = Integer.MAX_VALUE;

    private TapeTest() {}

    public static void main(String[] args) {
        newObjectIsEmpty();
        lastOfAllCallsAnswers();
        typeTakesLowestBytes();
        typeTakesOneToEight();
        typeFillsTheTape();
        refusedTypeLeavesTheTape();
        againRepeats();
        againRepeatsNothing();
        againRepeatsWhatThereIs();
        againFillsTheTape();
        refusedAgainLeavesTheTape();
        checksumOfNothing();
        checksumOfKnownRows();
        checksumHasAllBitsOfAnInt();
        checksumHasTheLengthThatItNeeds();
        checksumOfAFullTape();
        Check.end();
    }

    /** "All is empty." */
    private static void newObjectIsEmpty() {
        Chain chain = new Chain();
        Check.due("again(0)", chain.again(0), 0);
        Check.refused("again(1)", () -> chain.again(1));
        Check.due("about(0, 0, 0)", chain.about(0, 0, 0), 0);
        Check.due("about(1, 0, 0)", chain.about(1, 0, 0), 0);
        Check.noIndex("about(0, 1, 0)", () -> chain.about(0, 1, 0));
        Check.noIndex("about(1, 1, 0)", () -> chain.about(1, 1, 0));
        Check.noIndex("byteOf(0, 0, 0)", () -> chain.byteOf(0, 0, 0));
        Check.noIndex("byteOf(1, 0, 0)", () -> chain.byteOf(1, 0, 0));
        Check.noIndex("part(1, -1)", () -> chain.part(1, -1));
        Check.noIndex("pass(1, 0, 0)", () -> chain.pass(1, 0, 0));
        Check.noIndex("link(0)", () -> chain.link(0));
        Check.due("stage(1, 0)", chain.stage(1, 0), -1);
        Check.due("stage(2, 0)", chain.stage(2, 0), -1);
        Check.due("unpack()", chain.unpack(), 6);
        Check.due("empty()", chain.empty(), 0);
        Check.due("clear()", chain.clear(), 0);
        Check.due("checksum()", chain.checksum(), -1);
    }

    /** "An object is used for at most 512 calls after it has been made" */
    private static void lastOfAllCallsAnswers() {
        MailChain chain = new MailChain();
        for (int calls = 1; calls <= 510; calls++) {
            Check.due("call " + calls, chain.type('a', 1), calls);
        }
        Check.due("call 511", chain.type('a', 1), 511);
        Check.due("call 512", chain.checksum(), 1177345367);
    }

    /** "The n lowest bytes of w come behind the tape, the lowest first: how many it has." */
    private static void typeTakesLowestBytes() {
        String bytes = "\u0001\u00fe\u0041\u007f\u0080\u0042\u0000\u00ff";
        for (int n = 1; n <= 8; n++) {
            Chain chain = new Chain();
            Check.due("type(.., 1)", chain.type('p', 1), 1);
            Check.due("type(.., " + n + ")", chain.type(0xff0042807f41fe01L, n), 1 + n);
            Check.due("add", chain.add(1, 1, 0, 0, 0, 0), 1);
            Check.same("content", Check.body(chain, 0, 0), bytes.substring(0, n));
        }
    }

    /** "IllegalArgumentException when n is not 1 .. 8" */
    private static void typeTakesOneToEight() {
        Chain chain = new Chain();
        Check.due("type(-1, 1)", chain.type(-1, 1), 1);
        Check.due("type(-1, 8)", chain.type(-1, 8), 9);
        for (int n : new int[] {0, 9, -1, -8, 64, 256 + 1, MIN, MIN + 1, MAX}) {
            Check.refused("type(1, " + n + ")", () -> chain.type(1, n));
        }
    }

    private static Chain typed(int length) {
        Chain chain = new Chain();
        Check.type(chain, "a".repeat(length));
        Check.due("length", chain.again(0), length);
        return chain;
    }

    /** "UnsupportedOperationException when there would be more than 8000." */
    private static void typeFillsTheTape() {
        for (int n = 1; n <= 8; n++) {
            int most = n;
            Chain chain = typed(8000 - n);
            Chain more = typed(8001 - n);
            Check.due("type to the end by " + n, chain.type(0, n), 8000);
            Check.tooMuch("type behind it, " + n, () -> chain.type(0, most));
            Check.tooMuch("type beyond the end, " + n, () -> more.type(0, most));
        }
    }

    private static void refusedTypeLeavesTheTape() {
        Chain chain = typed(7999);
        Check.tooMuch("type(0, 2)", () -> chain.type(0, 2));
        Check.refused("type(0, 0)", () -> chain.type(0, 0));
        Check.refused("type(0, 9)", () -> chain.type(0, 9));
        Check.due("type('a', 1)", chain.type('a', 1), 8000);
        Check.tooMuch("type(0, 1)", () -> chain.type(0, 1));
        Check.due("checksum()", chain.checksum(), (int) 1972200443L);
        Check.due("type behind checksum", chain.type(0, 1), 1);
    }

    /** "The last n bytes of the tape come once more behind it: how many it has." */
    private static void againRepeats() {
        Chain chain = new Chain();
        chain.type(0x6564636261L, 5);
        Check.due("again(2)", chain.again(2), 7);
        Check.due("again(1)", chain.again(1), 8);
        Check.due("again(8)", chain.again(8), 16);
        Check.due("again(15)", chain.again(15), 31);
        chain.add(1, 31, 0, 0, 0, 0);
        Check.same("path", Check.path(chain, 0, 0), "abcdedeeabcdedeebcdedeeabcdedee");
    }

    /** No byte at all can be repeated, also when there is none, or room for none. */
    private static void againRepeatsNothing() {
        Chain chain = new Chain();
        Check.due("again(0), empty", chain.again(0), 0);
        Check.due("checksum()", chain.checksum(), -1);
        chain.type('a', 1);
        Check.due("again(0)", chain.again(0), 1);
        Check.due("checksum()", chain.checksum(), 1220704766);
        Chain full = typed(8000);
        Check.due("again(0), full", full.again(0), 8000);
        Check.due("checksum()", full.checksum(), 1972200443);
    }

    /** "IllegalArgumentException when it has not so many, or n is negative" */
    private static void againRepeatsWhatThereIs() {
        Chain chain = new Chain();
        Check.refused("again(1), empty", () -> chain.again(1));
        Check.type(chain, "abc");
        for (int n : new int[] {4, 5, -1, -3, MIN, MAX}) {
            Check.refused("again(" + n + ")", () -> chain.again(n));
        }
        Check.due("again(3)", chain.again(3), 6);
        Check.refused("again(7)", () -> chain.again(7));
        chain.checksum();
        Check.refused("again(1) behind checksum", () -> chain.again(1));
    }

    /** "UnsupportedOperationException as for type." */
    private static void againFillsTheTape() {
        Check.due("again(4000) of 4000", typed(4000).again(4000), 8000);
        Check.tooMuch("again(4001) of 4001", () -> typed(4001).again(4001));
        Check.tooMuch("again(4000) of 4001", () -> typed(4001).again(4000));
        Check.due("again(3999) of 4001", typed(4001).again(3999), 8000);
        Check.due("again(1) of 7999", typed(7999).again(1), 8000);
        Check.tooMuch("again(2) of 7999", () -> typed(7999).again(2));
        Check.tooMuch("again(1) of 8000", () -> typed(8000).again(1));
        Check.tooMuch("again(8000) of 8000", () -> typed(8000).again(8000));
    }

    private static void refusedAgainLeavesTheTape() {
        Chain chain = typed(7999);
        Check.tooMuch("again(2)", () -> chain.again(2));
        Check.refused("again(8000)", () -> chain.again(8000));
        Check.refused("again(-1)", () -> chain.again(-1));
        Check.due("again(0)", chain.again(0), 7999);
        Check.due("checksum()", chain.checksum(), 820588932);
    }

    private static void dueChecksum(String row, long want) {
        Chain chain = new Chain();
        Check.type(chain, row);
        String what = "checksum of " + row.length() + " bytes";
        Check.due(what, chain.checksum(), (int) want);
        Check.due(what + ", by the model", Model.checksum(Check.bytes(row)), (int) want);
        Check.due("checksum behind it", chain.checksum(), -1);
    }

    /** "as many bytes as it needs, ..; none for 0": all that is left is what is turned round. */
    private static void checksumOfNothing() {
        dueChecksum("", 4294967295L);
    }

    /** What the cksum of POSIX tells, which has the same polynomial. */
    private static void checksumOfKnownRows() {
        dueChecksum("a", 1220704766L);
        dueChecksum("abc", 1219131554L);
        dueChecksum("123456789", 930766865L);
        dueChecksum("PART", 415164635L);
    }

    /** "as an int of 32 bits": what is above 2147483647 is negative. */
    private static void checksumHasAllBitsOfAnInt() {
        dueChecksum("\u0080", 2041723600L);
        dueChecksum("\u00ff", 3045181057L);
        dueChecksum("\u00ff\u00ff", 267319589L);
        Chain chain = new Chain();
        chain.type(255, 1);
        Check.due("checksum above 2147483647", chain.checksum(), -1249786239);
    }

    /** "those of its length (as many bytes as it needs, the lowest byte first ..)" */
    private static void checksumHasTheLengthThatItNeeds() {
        dueChecksum("a".repeat(254), 1363176939L);
        dueChecksum("a".repeat(255), 325133292L);
        dueChecksum("a".repeat(256), 3916537103L);
        dueChecksum("a".repeat(257), 1865259309L);
        // bytes 0 count by the length alone; of 256 the lowest byte, which is 0, comes first
        dueChecksum("\0", 4215202376L);
        dueChecksum("\0\0", 4135437457L);
        dueChecksum("\0".repeat(255), 1309196107L);
        dueChecksum("\0".repeat(256), 4215202376L);
    }

    private static void checksumOfAFullTape() {
        dueChecksum("a".repeat(4096), 532398031L);
        dueChecksum("a".repeat(7999), 820588932L);
        dueChecksum("a".repeat(8000), 1972200443L);
        dueChecksum("\u00ff".repeat(8000), 2371861539L);
    }
}
