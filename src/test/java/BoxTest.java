/** Promises 11 to 14 (receive, pass, forge, empty), and of the terms THE BOX. */
public final class BoxTest {
    private static final int MIN = Integer.MIN_VALUE;
    private static final int MAX = Integer.MAX_VALUE;
    /** What comes behind the size of a part whose piece is a. */
    private static final String SUM = " CKSUM 1220704766\n";
    private static final String NO_TREE = Model.archive(new Model().mine);

    private BoxTest() {}

    public static void main(String[] args) {
        partsComeIn();
        partsOfNoBytesComeIn();
        greatestPartComesIn();
        linesHaveTheirWords();
        linesHaveDigits();
        countsAre1To999();
        partsAre1ToCount();
        sizesAre0To48000();
        checksumsHave32Bits();
        digitsHaveNoZerosBefore();
        countsAreTheSame();
        partsComeOnce();
        sizesAreTrue();
        checksumsAreTrue();
        firstThingIsTold();
        refusedPartsMayComeLater();
        passTakesParts();
        passTurnsBits();
        passTakesPartsOfTheLatestPack();
        passNeedsAPart();
        passNeedsAByte();
        passNeedsBits();
        forgeEmptiesTheBox();
        forgeOfText();
        forgeOfCompressed();
        forgeOfArchive();
        forgeOfNothing();
        forgeOfAFullTape();
        forgeNeedsAWhat();
        forgeNeedsAWidth();
        emptyTakesAll();
        Check.end();
    }

    private static int receive(Chain chain, String row) {
        Check.type(chain, row);
        return chain.receive();
    }

    private static void dueTold(String row, int want) {
        Chain chain = new Chain();
        Check.due("receive() of " + row, receive(chain, row), want);
        Check.due("parts behind it", chain.empty(), want == 0 ? 1 : 0);
    }

    /** "A row of bytes COMES into it, if it is a part" */
    private static void partsComeIn() {
        dueTold("PART 1 OF 1 SIZE 1" + SUM + "a", 0);
        dueTold(Model.part(10, 100, "\n\u0000\u00ff"), 0);
        dueTold(Model.part(1, 1, Model.part(1, 1, "a")), 0);
        Chain chain = new Chain();
        Check.due("3 of 3", receive(chain, Model.part(3, 3, "c")), 0);
        Check.due("1 of 3", receive(chain, Model.part(1, 3, "a")), 0);
        Check.due("unpack()", chain.unpack(), 6);
        Check.due("2 of 3", receive(chain, Model.part(2, 3, "b")), 0);
        Check.due("unpack()", chain.unpack(), 7);
        Check.due("empty()", chain.empty(), 3);
    }

    private static void partsOfNoBytesComeIn() {
        dueTold("PART 1 OF 1 SIZE 0 CKSUM 4294967295\n", 0);
        dueTold("PART 1 OF 1 SIZE 0 CKSUM 4294967295\na", 4);
        Chain chain = new Chain();
        String text = Model.spell(Model.compress(NO_TREE, 9));
        Check.due("1 of 4", receive(chain, Model.part(1, 4, "")), 0);
        Check.due("2 of 4", receive(chain, Model.part(2, 4, text)), 0);
        Check.due("4 of 4", receive(chain, Model.part(4, 4, "")), 0);
        Check.due("4 of 4 again", receive(chain, Model.part(4, 4, "")), 3);
        Check.due("unpack()", chain.unpack(), 6);
        Check.due("3 of 4", receive(chain, Model.part(3, 4, "")), 0);
        Check.due("unpack()", chain.unpack(), 0);
    }

    /** The tape has 8000 bytes, so that a piece may have some 7960. */
    private static void greatestPartComesIn() {
        String piece = Check.repeat("abcdefgh", 7960);
        String part = Model.part(1, 1, piece);
        while (part.length() < 8000) {
            piece += "x";
            part = Model.part(1, 1, piece);
        }
        Check.due("bytes", part.length(), 8000);
        dueTold(part, 0);
        dueTold(part.substring(0, 7999), 4);
        dueTold(part.substring(0, 7999) + "y", 5);
    }

    /** "1 it does not begin with such a line": PART, OF, SIZE, CKSUM, one 32 between; 10 */
    private static void linesHaveTheirWords() {
        String[] wrong = {
            "", "P", "PART", "PART ", "PART 1", "PART 1 OF", "PART 1 OF 1 SIZE 1",
            "PART 1 OF 1 SIZE 1 CKSUM ", "PART 1 OF 1 SIZE 1 CKSUM 1220704766", "\n", "\na",
            "part 1 OF 1 SIZE 1" + SUM + "a", "PART  1 OF 1 SIZE 1" + SUM + "a",
            " PART 1 OF 1 SIZE 1" + SUM + "a", "PART 1  OF 1 SIZE 1" + SUM + "a",
            "PART 1 OF  1 SIZE 1" + SUM + "a", "PART 1 OF 1  SIZE 1" + SUM + "a",
            "PART 1 OF 1 SIZE  1" + SUM + "a", "PART 1 OF 1 SIZE 1 " + SUM + "a",
            "PART 1 OF 1 SIZE 1 CKSUM  1220704766\na", "PART 1 OF 1 SIZE 1 CKSUM 1220704766 \na",
            "PART 1 OF 1 SIZE 1 CKSUM 1220704766\r\na", "PART 1 OF 1 SIZE 1 CKSUM 1220704766a\n",
            "PART1 OF 1 SIZE 1" + SUM + "a", "PART 1OF 1 SIZE 1" + SUM + "a",
            "PART 1 OF 1SIZE 1" + SUM + "a", "PART 1 OF 1 SIZE1" + SUM + "a",
            "PART 1 Of 1 SIZE 1" + SUM + "a", "PART 1 OF 1 SIZe 1" + SUM + "a",
            "PART 1 OF 1 SIZE 1 CKSUm 1220704766\na", "PART\t1 OF 1 SIZE 1" + SUM + "a",
            "\nPART 1 OF 1 SIZE 1" + SUM + "a", "PART 1 OF 1 SIZE 1 CKSUM 1220704766\0\na"};
        for (String row : wrong) {
            dueTold(row, 1);
        }
    }

    private static void linesHaveDigits() {
        String[] wrong = {
            "PART  OF 1 SIZE 1" + SUM + "a", "PART 1 OF  SIZE 1" + SUM + "a",
            "PART 1 OF 1 SIZE " + SUM + "a", "PART 1 OF 1 SIZE 1 CKSUM \na",
            "PART -1 OF 1 SIZE 1" + SUM + "a", "PART 1 OF -1 SIZE 1" + SUM + "a",
            "PART 1 OF 1 SIZE -1" + SUM + "a", "PART 1 OF 1 SIZE 1 CKSUM -1\na",
            "PART +1 OF 1 SIZE 1" + SUM + "a", "PART 1 OF +1 SIZE 1" + SUM + "a",
            "PART 1 OF 1 SIZE +1" + SUM + "a", "PART 1 OF 1 SIZE 1 CKSUM +1220704766\na",
            "PART : OF 99 SIZE 1" + SUM + "a", "PART / OF 99 SIZE 1" + SUM + "a",
            "PART 1 OF : SIZE 1" + SUM + "a", "PART 1 OF 1 SIZE /" + SUM + "a",
            "PART 1 OF 1 SIZE 1 CKSUM :\na", "PART x OF 1 SIZE 1" + SUM + "a",
            "PART 1 OF 1 SIZE 1 CKSUM 0x1\na", "PART \u00b1 OF 9 SIZE 1" + SUM + "a"};
        for (String row : wrong) {
            dueTold(row, 1);
        }
    }

    /** "(n 1 .. 999" */
    private static void countsAre1To999() {
        dueTold("PART 1 OF 1 SIZE 1" + SUM + "a", 0);
        dueTold("PART 1 OF 999 SIZE 1" + SUM + "a", 0);
        dueTold("PART 1 OF 0 SIZE 1" + SUM + "a", 1);
        dueTold("PART 0 OF 0 SIZE 1" + SUM + "a", 1);
        dueTold("PART 1 OF 1000 SIZE 1" + SUM + "a", 1);
        dueTold("PART 1000 OF 1000 SIZE 1" + SUM + "a", 1);
        dueTold("PART 1 OF 65537 SIZE 1" + SUM + "a", 1);
        dueTold("PART 1 OF 4294967297 SIZE 1" + SUM + "a", 1);
        dueTold("PART 1 OF 18446744073709551617 SIZE 1" + SUM + "a", 1);
    }

    /** ".. k 1 .. n" */
    private static void partsAre1ToCount() {
        dueTold("PART 999 OF 999 SIZE 1" + SUM + "a", 0);
        dueTold("PART 3 OF 3 SIZE 1" + SUM + "a", 0);
        dueTold("PART 0 OF 1 SIZE 1" + SUM + "a", 1);
        dueTold("PART 0 OF 999 SIZE 1" + SUM + "a", 1);
        dueTold("PART 2 OF 1 SIZE 1" + SUM + "a", 1);
        dueTold("PART 4 OF 3 SIZE 1" + SUM + "a", 1);
        dueTold("PART 1000 OF 999 SIZE 1" + SUM + "a", 1);
        dueTold("PART 4294967297 OF 1 SIZE 1" + SUM + "a", 1);
        dueTold("PART 18446744073709551617 OF 1 SIZE 1" + SUM + "a", 1);
    }

    /** ".. size 0 .. 48000": what is above is a wrong line, not a wrong size. */
    private static void sizesAre0To48000() {
        dueTold("PART 1 OF 1 SIZE 0 CKSUM 4294967295\n", 0);
        dueTold("PART 1 OF 1 SIZE 48000" + SUM + "a", 4);
        dueTold("PART 1 OF 1 SIZE 48001" + SUM + "a", 1);
        dueTold("PART 1 OF 1 SIZE 99999" + SUM + "a", 1);
        dueTold("PART 1 OF 1 SIZE 4294967297" + SUM + "a", 1);
        dueTold("PART 1 OF 1 SIZE 18446744073709551617" + SUM + "a", 1);
    }

    /** ".. checksum at most 4294967295" */
    private static void checksumsHave32Bits() {
        dueTold("PART 1 OF 1 SIZE 1 CKSUM 0\na", 5);
        dueTold("PART 1 OF 1 SIZE 1 CKSUM 4294967295\na", 5);
        dueTold("PART 1 OF 1 SIZE 1 CKSUM 4294967296\na", 1);
        dueTold("PART 1 OF 1 SIZE 1 CKSUM 9999999999\na", 1);
        dueTold("PART 1 OF 1 SIZE 1 CKSUM 12207047660\na", 1);
        // the right one, and 2^32 or 2^64 more
        dueTold("PART 1 OF 1 SIZE 1 CKSUM 5515672062\na", 1);
        dueTold("PART 1 OF 1 SIZE 1 CKSUM 18446744074930256382\na", 1);
        // a checksum above 2147483647
        dueTold("PART 1 OF 1 SIZE 1 CKSUM 3045181057\n\u00ff", 0);
    }

    /** ".. no zeros before digits)" */
    private static void digitsHaveNoZerosBefore() {
        dueTold("PART 01 OF 1 SIZE 1" + SUM + "a", 1);
        dueTold("PART 1 OF 01 SIZE 1" + SUM + "a", 1);
        dueTold("PART 1 OF 1 SIZE 01" + SUM + "a", 1);
        dueTold("PART 1 OF 1 SIZE 1 CKSUM 01220704766\na", 1);
        dueTold("PART 1 OF 1 SIZE 1 CKSUM 00\na", 1);
        dueTold("PART 1 OF 1 SIZE 1 CKSUM 01\na", 1);
        dueTold("PART 1 OF 1 SIZE 00 CKSUM 4294967295\n", 1);
        dueTold("PART 00 OF 1 SIZE 1" + SUM + "a", 1);
        dueTold("PART 10 OF 10 SIZE 10 CKSUM " + sum("abcdefghij") + "\nabcdefghij", 0);
    }

    private static long sum(String row) {
        return Model.checksum(Check.bytes(row)) & 4294967295L;
    }

    /** "2 the box has parts of another n": an empty box has none. */
    private static void countsAreTheSame() {
        Chain chain = new Chain();
        Check.due("2 of 3", receive(chain, Model.part(2, 3, "b")), 0);
        Check.due("1 of 2", receive(chain, Model.part(1, 2, "a")), 2);
        Check.due("1 of 4", receive(chain, Model.part(1, 4, "a")), 2);
        Check.due("2 of 4", receive(chain, Model.part(2, 4, "b")), 2);
        Check.due("1 of 999", receive(chain, Model.part(1, 999, "a")), 2);
        Check.due("1 of 3", receive(chain, Model.part(1, 3, "a")), 0);
        chain.empty();
        Check.due("1 of 4, behind empty()", receive(chain, Model.part(1, 4, "a")), 0);
        Check.due("3 of 3, behind empty()", receive(chain, Model.part(3, 3, "a")), 2);
        chain.forge(2, 0);
        Check.due("2 of 4, behind forge()", receive(chain, Model.part(2, 4, "a")), 2);
        Check.type(chain, NO_TREE);
        chain.forge(0, 9);
        Check.due("unpack()", chain.unpack(), 0);
        Check.due("2 of 4, behind unpack()", receive(chain, Model.part(2, 4, "a")), 0);
    }

    /** "3 it has that one" */
    private static void partsComeOnce() {
        Chain chain = new Chain();
        Check.due("1 of 3", receive(chain, Model.part(1, 3, "a")), 0);
        Check.due("3 of 3", receive(chain, Model.part(3, 3, "c")), 0);
        Check.due("1 of 3 again", receive(chain, Model.part(1, 3, "a")), 3);
        Check.due("1 of 3, another", receive(chain, Model.part(1, 3, "b")), 3);
        Check.due("3 of 3 again", receive(chain, Model.part(3, 3, "c")), 3);
        Check.due("2 of 3", receive(chain, Model.part(2, 3, "a")), 0);
        Check.due("2 of 3 again", receive(chain, Model.part(2, 3, "a")), 3);
        Check.due("empty()", chain.empty(), 3);
        Check.due("1 of 3 behind empty()", receive(chain, Model.part(1, 3, "a")), 0);
        Chain many = new Chain();
        for (int k = 999; k > 950; k--) {
            Check.due(k + " of 999", receive(many, Model.part(k, 999, "")), 0);
        }
        Check.due("999 again", receive(many, Model.part(999, 999, "")), 3);
        Check.due("951 again", receive(many, Model.part(951, 999, "")), 3);
        Check.due("unpack()", many.unpack(), 6);
        Check.due("empty()", many.empty(), 49);
    }

    /** "4 it has not as many bytes behind the line as this says" */
    private static void sizesAreTrue() {
        dueTold("PART 1 OF 1 SIZE 1" + SUM, 4);
        dueTold("PART 1 OF 1 SIZE 1" + SUM + "ab", 4);
        dueTold("PART 1 OF 1 SIZE 1" + SUM + "a\n", 4);
        dueTold("PART 1 OF 1 SIZE 0" + SUM + "a", 4);
        dueTold("PART 1 OF 1 SIZE 2" + SUM + "a", 4);
        dueTold("PART 1 OF 1 SIZE 10" + SUM + "a", 4);
        dueTold("PART 1 OF 1 SIZE 257" + SUM + "a", 4);
    }

    /** "5 the checksum is another one" */
    private static void checksumsAreTrue() {
        dueTold("PART 1 OF 1 SIZE 1 CKSUM 1220704766\na", 0);
        dueTold("PART 1 OF 1 SIZE 1 CKSUM 1220704765\na", 5);
        dueTold("PART 1 OF 1 SIZE 1 CKSUM 1220704767\na", 5);
        dueTold("PART 1 OF 1 SIZE 1 CKSUM 3368188414\na", 5);
        dueTold("PART 1 OF 1 SIZE 1 CKSUM 1220704766\nb", 5);
        dueTold("PART 1 OF 1 SIZE 0 CKSUM 4294967294\n", 5);
        dueTold("PART 1 OF 1 SIZE 0 CKSUM 0\n", 5);
    }

    /** "it is told, the first of these" */
    private static void firstThingIsTold() {
        Chain chain = new Chain();
        Check.due("2 of 3", receive(chain, Model.part(2, 3, "b")), 0);
        Check.due("1, 4, 5", receive(chain, "PART 5 OF 4 SIZE 9 CKSUM 1\na"), 1);
        Check.due("1, 3, 4, 5", receive(chain, "PART 2 OF 3 SIZE 48001 CKSUM 1\na"), 1);
        Check.due("2, 4, 5", receive(chain, "PART 2 OF 4 SIZE 9 CKSUM 1\na"), 2);
        Check.due("2, 4", receive(chain, "PART 1 OF 4 SIZE 9" + SUM + "a"), 2);
        Check.due("2, 5", receive(chain, "PART 1 OF 4 SIZE 1 CKSUM 1\na"), 2);
        Check.due("3, 4, 5", receive(chain, "PART 2 OF 3 SIZE 9 CKSUM 1\na"), 3);
        Check.due("3, 5", receive(chain, "PART 2 OF 3 SIZE 1 CKSUM 1\na"), 3);
        Check.due("4, 5", receive(chain, "PART 1 OF 3 SIZE 2 CKSUM 1\na"), 4);
        Check.due("5", receive(chain, "PART 1 OF 3 SIZE 1 CKSUM 1\na"), 5);
        Check.due("none", receive(chain, "PART 1 OF 3 SIZE 1" + SUM + "a"), 0);
        Check.due("empty()", chain.empty(), 2);
    }

    /** "otherwise nothing happens but that it is told" */
    private static void refusedPartsMayComeLater() {
        Chain chain = new Chain();
        String text = Model.spell(Model.compress(NO_TREE, 9));
        Check.due("1 of 3, wrong", receive(chain, "PART 1 OF 3 SIZE 1 CKSUM 1\na"), 5);
        Check.due("1 of 2", receive(chain, Model.part(1, 2, text.substring(0, 30))), 0);
        receive(chain, Model.part(1, 2, "other"));
        receive(chain, Model.part(2, 3, "other"));
        receive(chain, "other");
        receive(chain, "PART 2 OF 2 SIZE 1 CKSUM 1\na");
        receive(chain, "PART 2 OF 2 SIZE 2" + SUM + "a");
        Check.due("unpack()", chain.unpack(), 6);
        Check.due("2 of 2", receive(chain, Model.part(2, 2, text.substring(30))), 0);
        Check.due("unpack()", chain.unpack(), 0);
    }

    private static Chain packed() {
        Chain chain = new Chain();
        Check.file(chain, "a", "hello, world");
        Check.due("pack(9, 100)", chain.pack(9, 100), 2);
        return chain;
    }

    private static void passTakesParts() {
        Chain chain = packed();
        Check.due("pass(2, 0, 0)", chain.pass(2, 0, 0), 0);
        Check.due("pass(2, 0, 0)", chain.pass(2, 0, 0), 3);
        Check.due("unpack()", chain.unpack(), 6);
        Check.due("pass(1, 0, 0)", chain.pass(1, 0, 0), 0);
        Check.due("unpack()", chain.unpack(), 0);
        Check.same("path", Check.path(chain, 1, 0), "a");
        Check.same("body", Check.body(chain, 1, 0), "hello, world");
        Check.due("pass(1, 0, 0), behind unpack()", chain.pass(1, 0, 0), 0);
    }

    /** "(its bits that are 1 in x, 0 .. 255, are turned round)": only in what comes */
    private static void passTurnsBits() {
        Chain chain = packed();
        String part = Check.part(chain, 1);
        int size = part.length();
        Check.due("the word", chain.pass(1, 0, 1), 1);
        Check.due("the line's end", chain.pass(1, size - 101, 255), 1);
        Check.due("the first byte of the piece", chain.pass(1, size - 100, 1), 5);
        Check.due("the last byte", chain.pass(1, size - 1, 128), 5);
        Check.due("part 1 as 3", chain.pass(1, 5, 2), 1);
        Check.due("part 1 as 0", chain.pass(1, 5, 1), 1);
        Check.due("size 100 as 101", chain.pass(1, 19, 1), 4);
        Check.due("of 2 as of 3", chain.pass(1, 10, 1), 0);
        Check.due("part 2, of 2", chain.pass(2, 0, 0), 2);
        Check.due("empty()", chain.empty(), 1);
        Check.due("part 2 as 3", chain.pass(2, 5, 1), 1);
        Check.due("part 2 as 1, of 2 as of 2", chain.pass(2, 5, 3), 0);
        Check.due("empty()", chain.empty(), 1);
        Check.due("the part itself stays", chain.pass(1, 0, 0), 0);
        Check.due("the part itself stays", chain.pass(2, 0, 0), 0);
        Check.due("unpack()", chain.unpack(), 0);
        Check.same("part 1", Check.part(chain, 1), part);
        for (int x = 1; x <= 255; x++) {
            Check.due("pass(1, " + (size - 1) + ", " + x + ")", chain.pass(1, size - 1, x), 5);
        }
    }

    private static void passTakesPartsOfTheLatestPack() {
        Chain chain = packed();
        chain.pass(1, 0, 0);
        chain.pack(9, 50);
        Check.due("another n", chain.pass(1, 0, 0), 2);
        chain.empty();
        Check.due("behind empty()", chain.pass(3, 0, 0), 0);
        Check.due("empty()", chain.empty(), 1);
    }

    /** "IndexOutOfBoundsException when there is no such part .." */
    private static void passNeedsAPart() {
        Chain fresh = new Chain();
        Check.noIndex("pass(1, 0, 0), before pack", () -> fresh.pass(1, 0, 0));
        Chain chain = packed();
        for (int k : new int[] {0, -1, 3, 999, 1000, MIN, MAX}) {
            Check.noIndex("pass(" + k + ", 0, 0)", () -> chain.pass(k, 0, 0));
        }
        Check.due("empty()", chain.empty(), 0);
        Check.due("pass(1, 0, 0)", chain.pass(1, 0, 0), 0);
        Check.due("pass(2, 0, 0)", chain.pass(2, 0, 0), 0);
    }

    /** ".. or byte" */
    private static void passNeedsAByte() {
        Chain chain = packed();
        for (int k = 1; k <= 2; k++) {
            int asked = k;
            int size = chain.part(k, -1);
            for (int at : new int[] {-1, size, size + 1, MIN, MAX}) {
                Check.noIndex("pass(" + k + ", " + at + ", 0)", () -> chain.pass(asked, at, 0));
            }
            Check.due("empty()", chain.empty(), 0);
            Check.due("pass(" + k + ", size - 1, 0)", chain.pass(k, size - 1, 0), 0);
            chain.empty();
            Check.due("pass(" + k + ", 0, 0)", chain.pass(k, 0, 0), 0);
            chain.empty();
        }
    }

    /** "IllegalArgumentException when x is none." */
    private static void passNeedsBits() {
        Chain chain = packed();
        int size = chain.part(2, -1);
        for (int x : new int[] {-1, 256, 257, 511, -256, MIN, MAX}) {
            Check.refused("pass(2, 0, " + x + ")", () -> chain.pass(2, 0, x));
            Check.refused("pass(2, size - 1, " + x + ")", () -> chain.pass(2, size - 1, x));
        }
        Check.due("empty()", chain.empty(), 0);
        Check.due("pass(2, 0, 255)", chain.pass(2, 0, 255), 1);
        Check.due("pass(2, size - 1, 255)", chain.pass(2, size - 1, 255), 5);
        Check.due("pass(2, 0, 0)", chain.pass(2, 0, 0), 0);
    }

    /** "The box is emptied; the tape .. comes into it as the one part there is." */
    private static void forgeEmptiesTheBox() {
        for (int what = 0; what <= 2; what++) {
            Chain chain = new Chain();
            receive(chain, Model.part(1, 3, "x"));
            receive(chain, Model.part(2, 3, "x"));
            chain.forge(what, 9);
            Check.due("none of 3 is there", receive(chain, Model.part(3, 3, "x")), 2);
            Check.due("1 of 1 is there", receive(chain, Model.part(1, 1, "x")), 3);
            chain.type('x', 1);
            chain.forge(what, 9);
            Check.due("empty()", chain.empty(), 1);
            Check.due("1 of 3 comes behind it", receive(chain, Model.part(1, 3, "x")), 0);
        }
    }

    private static void dueForged(String tape, int what, int width, int want) {
        Chain chain = new Chain();
        Check.type(chain, tape);
        chain.forge(what, width);
        Check.due("unpack() of forge(" + what + ", " + width + ")", chain.unpack(), want);
    }

    /** "as a text (what = 2)": the width is not looked at. */
    private static void forgeOfText() {
        String text = Model.spell(Model.compress(NO_TREE, 9));
        for (int width : new int[] {9, 16, 8, 17, 0, -1, MIN, MAX}) {
            dueForged(text, 2, width, 0);
        }
    }

    /** ".. or SPELLED as compressed bytes (1)" */
    private static void forgeOfCompressed() {
        for (int width : new int[] {9, 16, 8, 17, 0, -1, MIN, MAX}) {
            dueForged(Model.compress(NO_TREE, 12), 1, width, 0);
        }
    }

    /** ".. or COMPRESSED (with width) and SPELLED as an archive (0)" */
    private static void forgeOfArchive() {
        for (int width = 9; width <= 16; width++) {
            dueForged(NO_TREE, 0, width, 0);
        }
        Chain chain = new Chain();
        Check.type(chain, NO_TREE);
        chain.forge(0, 9);
        Check.due("stage(1, 0): nothing was packed", chain.stage(1, 0), -1);
        Check.due("stage(2, 0)", chain.stage(2, 0), -1);
        Check.noIndex("part(1, -1)", () -> chain.part(1, -1));
    }

    /** No bytes are no text; they are no compressed bytes; they are no archive. */
    private static void forgeOfNothing() {
        dueForged("", 2, 9, 7);
        dueForged("", 1, 9, 8);
        for (int width = 9; width <= 16; width++) {
            dueForged("", 0, width, 9);
        }
    }

    private static void forgeOfAFullTape() {
        String full = Check.repeat("abcdefgh", 8000);
        String unlike = Check.unlike(2000) + Check.unlike(2000) + Check.unlike(2000)
                + Check.unlike(2000);
        for (String tape : new String[] {full, unlike}) {
            dueForged(tape, 2, 9, 7);
            dueForged(tape, 1, 9, 8);
            for (int width = 9; width <= 16; width++) {
                dueForged(tape, 0, width, 9);
            }
        }
    }

    /** "IllegalArgumentException when what is not 0 .. 2" */
    private static void forgeNeedsAWhat() {
        Chain chain = new Chain();
        receive(chain, Model.part(2, 3, "x"));
        for (int what : new int[] {-1, 3, 4, 256, MIN, MAX}) {
            Check.refused("forge(" + what + ", 9)", () -> chain.forge(what, 9));
            Check.refused("forge(" + what + ", 8)", () -> chain.forge(what, 8));
        }
        Check.due("the box stays", receive(chain, Model.part(2, 3, "x")), 3);
        Check.due("empty()", chain.empty(), 1);
    }

    /** ".. or width is not 9 .. 16 for 0 (the box stays then)." */
    private static void forgeNeedsAWidth() {
        Chain chain = new Chain();
        receive(chain, Model.part(2, 3, "x"));
        for (int width : new int[] {8, 17, 0, -1, -9, 256 + 9, MIN, MAX}) {
            Check.refused("forge(0, " + width + ")", () -> chain.forge(0, width));
        }
        Check.due("the box stays", receive(chain, Model.part(2, 3, "x")), 3);
        Check.due("empty()", chain.empty(), 1);
    }

    /** "The box is emptied: how many parts it had." */
    private static void emptyTakesAll() {
        Chain chain = packed();
        Check.due("empty() of none", chain.empty(), 0);
        chain.pass(1, 0, 0);
        Check.due("empty() of one of two", chain.empty(), 1);
        chain.pass(1, 0, 0);
        chain.pass(2, 0, 0);
        Check.due("empty() of two", chain.empty(), 2);
        Check.due("unpack()", chain.unpack(), 6);
        Check.due("empty() again", chain.empty(), 0);
        Check.due("pass(1, 0, 0)", chain.pass(1, 0, 0), 0);
        Check.due("empty()", chain.empty(), 1);
        chain.pass(1, 0, 0);
        chain.pass(2, 0, 0);
        Check.due("unpack()", chain.unpack(), 0);
        Check.due("empty() behind unpack()", chain.empty(), 0);
        Check.due("part(1, 0) stays", chain.part(1, 0), 'P');
        Check.due("YOURS stays", chain.about(1, 0, 0), 1);
    }
}
