import java.util.List;
import java.util.TreeMap;

/**
 * Promises 7 to 9 (pack, part, stage), and of the terms THE ARCHIVE, COMPRESSED, SPELLED and PARTS
 * as they are made; how they are read again is asked for in UnpackTest.
 */
public final class PackTest {
    private static final int MIN = Integer.MIN_VALUE;
    private static final int MAX = Integer.MAX_VALUE;
    private static final String TRAILER = "070707000000000000000000000000000000000001000000"
            + "00000000000" + "000013" + "00000000000" + "TRAILER!!!\0";

    private PackTest() {}

    public static void main(String[] args) {
        archiveOfNothing();
        archiveByHand();
        archiveOfTheLeast();
        archiveOfTheGreatest();
        archiveOfFortyEntries();
        archiveOfFortyLinks();
        archiveOfLinksInOrder();
        archiveOfATrailer();
        compressedBeginsWithItsWidth();
        compressedByHand();
        compressedTakesTheLongestString();
        widthGrowsBehind256Codes();
        tableIsClearedBehindItsLastNumber();
        tableIsClearedAgain();
        lastCodesFillTheTable();
        allWidthsThatCallsCanReach();
        spelledLinesHave45Bytes();
        partsAreCutByLength();
        partsMayEndWithTheText();
        partsHaveNoZerosBeforeDigits();
        packTakesWidthsAndLengths();
        packReplacesParts();
        packNeedsSmallOwners();
        partTellsItsSizeAndBytes();
        partNeedsAPart();
        partNeedsAByte();
        stageHasAWhat();
        stageHasNothingBeforePack();
        stageHasEnds();
        stageOfMineIsOfNow();
        stageOfPackIsOfThen();
        Check.end();
    }

    private static String header(String number, String kindAndMode, String links, String sizes) {
        return "070707000000" + number + kindAndMode + "000000000000" + links + "000000"
                + "00000000000" + sizes;
    }

    /** "at last a header with the path TRAILER!!! alone": of no entries there is nothing else. */
    private static void archiveOfNothing() {
        Chain chain = new Chain();
        Check.due("bytes of the trailer", TRAILER.length(), 87);
        Check.same("stage 0", Check.stage(chain, 0), TRAILER);
        Check.same("the model", Model.archive(new TreeMap<>()), TRAILER);
    }

    private static void archiveByHand() {
        Chain chain = new Chain();
        Check.directory(chain, "d");
        Check.file(chain, "d/a", "hello");
        Check.symlink(chain, "s", "d/a");
        Check.link(chain, 1, "b");
        String want = "070707000000" + "000001" + "100644" + "000012" + "000024" + "000002"
                + "000000" + "00000000036" + "000002" + "00000000005" + "b\0hello"
                + "070707000000" + "000002" + "040755" + "000001" + "000002" + "000001"
                + "000000" + "00000000003" + "000002" + "00000000000" + "d\0"
                + "070707000000" + "000001" + "100644" + "000012" + "000024" + "000002"
                + "000000" + "00000000036" + "000004" + "00000000005" + "d/a\0hello"
                + "070707000000" + "000004" + "120777" + "000000" + "000000" + "000001"
                + "000000" + "00000000011" + "000002" + "00000000003" + "s\0d/a"
                + TRAILER;
        Check.same("stage 0", Check.stage(chain, 0), want);
    }

    /** Of each kind the entry with the least numbers, path and content. */
    private static void archiveOfTheLeast() {
        String[] bodies = {"", "", "t"};
        String[] kinds = {"040000", "100000", "120000"};
        for (int kind = 0; kind < 3; kind++) {
            Chain chain = new Chain();
            Check.type(chain, "a" + bodies[kind]);
            chain.add(kind, 1, 0, 0, 0, 0);
            String sizes = "000002" + (kind == 2 ? "00000000001" : "00000000000");
            Check.same("stage 0 of kind " + kind, Check.stage(chain, 0),
                    header("000001", kinds[kind], "000001", sizes) + "a\0" + bodies[kind]
                            + TRAILER);
        }
    }

    /** "owner, group (6 each)", "time (11)", "how many bytes the path has .. (6)", ".. (11)" */
    private static void archiveOfTheGreatest() {
        String path = "p".repeat(60);
        String[] bodies = {"", Check.repeat("12345678", 6000), "t".repeat(60)};
        String[] kinds = {"047777", "107777", "127777"};
        String[] sizes = {"00000000000", "00000013560", "00000000074"};
        for (int kind = 0; kind < 3; kind++) {
            Chain chain = new Chain();
            Check.type(chain, path + bodies[kind]);
            chain.add(kind, 60, 4095, 262143, 262143, MAX);
            Check.same("stage 0 of kind " + kind, Check.stage(chain, 0),
                    "070707000000000001" + kinds[kind] + "777777777777000001000000" + "17777777777"
                            + "000075" + sizes[kind] + path + "\0" + bodies[kind] + TRAILER);
        }
    }

    /** "entries are numbered 1, 2, .. in order" */
    private static void archiveOfFortyEntries() {
        Chain chain = new Chain();
        StringBuilder want = new StringBuilder();
        for (int i = 40; i >= 1; i--) {
            Check.type(chain, "x" + (char) i);
            chain.add(0, 2, 0, 0, 0, 0);
        }
        for (int i = 1; i <= 40; i++) {
            want.append(header(String.format("%06o", i), "040000", "000001", "00000300000000000"))
                    .append('x').append((char) i).append('\0');
        }
        Check.same("stage 0", Check.stage(chain, 0), want + TRAILER);
    }

    /** "how many links it is one of, with itself (6 ..)" */
    private static void archiveOfFortyLinks() {
        Chain chain = new Chain();
        StringBuilder want = new StringBuilder();
        Check.type(chain, "abody");
        chain.add(1, 1, 0, 0, 0, 0);
        for (int i = 1; i < 40; i++) {
            Check.due("link", Check.link(chain, i - 1, "" + (char) ('a' + i)), i + 1);
        }
        for (int i = 0; i < 40; i++) {
            want.append(header("000001", "100000", "000050", "00000200000000004"))
                    .append((char) ('a' + i)).append("\0body");
        }
        Check.same("stage 0", Check.stage(chain, 0), want + TRAILER);
    }

    /** "links of one another have the number of the first one": first in order, not in time. */
    private static void archiveOfLinksInOrder() {
        Chain chain = new Chain();
        Check.file(chain, "m", "one");
        Check.file(chain, "n", "two");
        Check.link(chain, 0, "z");
        Check.link(chain, 1, "b");
        Check.link(chain, 1, "c");
        Check.file(chain, "o", "six");
        String archive = Check.stage(chain, 0);
        String[] numbers = {"000001", "000002", "000002", "000001", "000005", "000002"};
        String[] links = {"000002", "000003", "000003", "000002", "000001", "000003"};
        for (int i = 0; i < 6; i++) {
            int at = i * (76 + 2 + 3);
            Check.same("number of " + i, archive.substring(at + 12, at + 18), numbers[i]);
            Check.same("links of " + i, archive.substring(at + 36, at + 42), links[i]);
        }
    }

    /** An entry may have the trailer's path. */
    private static void archiveOfATrailer() {
        Chain chain = new Chain();
        Check.type(chain, "TRAILER!!!");
        chain.add(1, 10, 0, 0, 0, 0);
        Check.same("stage 0", Check.stage(chain, 0),
                header("000001", "100000", "000001", "00001300000000000") + "TRAILER!!!\0"
                        + TRAILER);
    }

    /** "31, 157, 128 + W (W, the greatest width, 9 .. 16)" */
    private static void compressedBeginsWithItsWidth() {
        for (int width = 9; width <= 16; width++) {
            Chain chain = new Chain();
            chain.pack(width, 4000);
            Check.due("byte 0", chain.stage(1, 0), 31);
            Check.due("byte 1", chain.stage(1, 1), 157);
            Check.due("byte 2", chain.stage(1, 2), 128 + width);
        }
    }

    /** The trailer begins 070707000..: 0, 7, 07, 070, 0, 00, 000, .. are its strings. */
    private static void compressedByHand() {
        Chain chain = new Chain();
        chain.pack(16, 4000);
        int[] codes = {48, 55, 257, 259, 48, 261, 262};
        Codes want = new Codes(16);
        for (int code : codes) {
            want.put(code, 9);
        }
        // of the eighth byte of these codes only the lowest bits are known
        String row = want.row();
        for (int i = 0; i < row.length() - 1; i++) {
            Check.due("byte " + i, chain.stage(1, i), row.charAt(i));
        }
    }

    private static void dueCompressed(String bytes, int width, Codes want) {
        Check.same("codes of " + bytes.length() + " bytes, " + width,
                Model.compress(bytes, width), want.row());
    }

    /** "the longest one of the table that is a beginning of what is left", ".. if there is one" */
    private static void compressedTakesTheLongestString() {
        for (int width = 9; width <= 16; width++) {
            dueCompressed("", width, new Codes(width));
            dueCompressed("a", width, new Codes(width).put(97, 9));
            dueCompressed("aa", width, new Codes(width).put(97, 9).put(97, 9));
            dueCompressed("aaa", width, new Codes(width).put(97, 9).put(257, 9));
            dueCompressed("aaaa", width, new Codes(width).put(97, 9).put(257, 9).put(97, 9));
            dueCompressed("aaaaaa", width, new Codes(width).put(97, 9).put(257, 9).put(258, 9));
            dueCompressed("abababa", width,
                    new Codes(width).put(97, 9).put(98, 9).put(257, 9).put(259, 9));
            dueCompressed("\u00ff\0\u00ff\0", width,
                    new Codes(width).put(255, 9).put(0, 9).put(257, 9));
        }
    }

    /**
     * "it is one more from the code on before which the table's next number is greater than
     * 2^width (W at most)": 513 is the next number before code 257.
     */
    private static void widthGrowsBehind256Codes() {
        for (int count : new int[] {255, 256, 257, 258, 264, 265, 767, 768}) {
            String bytes = Check.unlike(count);
            for (int width = 10; width <= 16; width++) {
                dueCompressed(bytes, width, new Codes(width).putEach(bytes, 0, 256, 9)
                        .putEach(bytes, 256, 768, 10));
            }
        }
        for (int count : new int[] {769, 770, 1791, 1792}) {
            String bytes = Check.unlike(count);
            for (int width = 11; width <= 16; width++) {
                dueCompressed(bytes, width, new Codes(width).putEach(bytes, 0, 256, 9)
                        .putEach(bytes, 256, 768, 10).putEach(bytes, 768, 1792, 11));
            }
        }
    }

    /**
     * "If the table has 2^W numbers then, CLEAR is put instead": behind the 256th code with W = 9,
     * the 768th with 10, the 1792th with 11, if a byte is left. "Before a width changes, also
     * behind CLEAR, and whatever it was, zero bits are put up to a multiple of eight codes".
     */
    private static void tableIsClearedBehindItsLastNumber() {
        for (int count : new int[] {255, 256, 257, 258, 264, 265}) {
            String bytes = Check.unlike(count);
            Codes codes = new Codes(9).putEach(bytes, 0, 256, 9);
            dueCompressed(bytes, 9,
                    count > 256 ? codes.putClear(9).putEach(bytes, 256, 512, 9) : codes);
        }
        for (int count : new int[] {767, 768, 769, 770, 776, 777}) {
            String bytes = Check.unlike(count);
            Codes codes = new Codes(10).putEach(bytes, 0, 256, 9).putEach(bytes, 256, 768, 10);
            dueCompressed(bytes, 10,
                    count > 768 ? codes.putClear(10).putEach(bytes, 768, 1024, 9) : codes);
        }
        for (int count : new int[] {1791, 1792, 1793, 1794}) {
            String bytes = Check.unlike(count);
            Codes codes = new Codes(11).putEach(bytes, 0, 256, 9).putEach(bytes, 256, 768, 10)
                    .putEach(bytes, 768, 1792, 11);
            dueCompressed(bytes, 11,
                    count > 1792 ? codes.putClear(11).putEach(bytes, 1792, 2048, 9) : codes);
        }
    }

    /** ".. the table is as at first", "counted since the last such change" */
    private static void tableIsClearedAgain() {
        String bytes = Check.unlike(514);
        dueCompressed(bytes, 9, new Codes(9).putEach(bytes, 0, 256, 9).putClear(9)
                .putEach(bytes, 256, 512, 9).putClear(9).putEach(bytes, 512, 514, 9));
        // behind CLEAR the strings there were have gone
        String twice = Check.unlike(256) + "\1\2\1\2\1";
        dueCompressed(twice, 9, new Codes(9).putEach(twice, 0, 256, 9).putClear(9)
                .put(1, 9).put(2, 9).put(257, 9).put(1, 9));
        String wide = Check.unlike(768 + 258);
        dueCompressed(wide, 10, new Codes(10).putEach(wide, 0, 256, 9)
                .putEach(wide, 256, 768, 10).putClear(10).putEach(wide, 768, 1024, 9)
                .putEach(wide, 1024, 1026, 10));
    }

    private static void dueStages(Chain chain, int width, int length) {
        String compressed = Model.compress(Check.stage(chain, 0), width);
        String text = Model.spell(compressed);
        List<String> parts = Model.parts(text, length);
        String call = "pack(" + width + ", " + length + ")";
        Check.due(call, chain.pack(width, length), parts.size());
        Check.same(call + ": stage 1", Check.stage(chain, 1), compressed);
        Check.same(call + ": stage 2", Check.stage(chain, 2), text);
        for (int k = 1; k <= parts.size(); k++) {
            Check.same(call + ": part " + k, Check.part(chain, k), parts.get(k - 1));
        }
        Check.noIndex(call + ": a part more", () -> chain.part(parts.size() + 1, -1));
    }

    /** A file whose archive has one code for each byte of the content, besides the headers'. */
    private static Chain unlikeFile(int size, String more) {
        Chain chain = new Chain();
        Check.file(chain, "a", Check.unlike(size) + more);
        return chain;
    }

    /** How many codes that file's archive has while the table is never full. */
    private static int countCodes(String content) {
        Model.Node node = new Model.Node();
        node.kind = 1;
        node.mode = 0644;
        node.owner = 10;
        node.group = 20;
        node.time = 30;
        node.body = content;
        TreeMap<String, Model.Node> tree = new TreeMap<>();
        tree.put("a", node);
        int bits = 8 * (Model.compress(Model.archive(tree), 16).length() - 3);
        int codes = 0;
        for (int width = 9; bits >= width; width += codes == (1 << width) - 256 ? 1 : 0) {
            bits -= width;
            codes++;
        }
        return codes;
    }

    /** The last code of the archive fills the table; or one before it, and CLEAR is put. */
    private static void lastCodesFillTheTable() {
        for (int width = 9; width <= 12; width++) {
            int full = (1 << width) - 256;
            boolean found = false;
            for (String more : new String[] {"", "\0", "\0\0"}) {
                int size = full - 128;
                while (countCodes(Check.unlike(size) + more) < full - 1) {
                    size++;
                }
                for (int last = size + 2; size <= last; size++) {
                    found |= countCodes(Check.unlike(size) + more) == full;
                    dueStages(unlikeFile(size, more), width, 4000);
                }
            }
            Check.due("the last code fills the table of " + width, found ? 1 : 0, 1);
        }
    }

    /** Codes of up to 13 bits: for more 512 calls cannot type enough. */
    private static void allWidthsThatCallsCanReach() {
        for (int size : new int[] {0, 1, 44, 300, 1000}) {
            for (int width = 9; width <= 16; width++) {
                dueStages(unlikeFile(size, ""), width, 4000);
            }
        }
        String repeated = Check.unlike(3303).substring(903);
        for (int width = 12; width <= 16; width++) {
            dueStages(unlikeFile(3303, repeated), width, 4000);
        }
        for (int width = 9; width <= 16; width++) {
            dueStages(unlikeFile(0, "\0".repeat(6000)), width, 333);
        }
    }

    /** "for each 45 bytes (the last ones may be less) a line; a line without bytes" */
    private static void spelledLinesHave45Bytes() {
        boolean[] seen = new boolean[45];
        for (int size = 0; size < 160; size++) {
            Chain chain = unlikeFile(size, "");
            chain.pack(9, 4000);
            String compressed = Check.stage(chain, 1);
            int last = compressed.length() % 45;
            if (seen[last]) {
                continue;
            }
            seen[last] = true;
            String[] lines = Check.stage(chain, 2).split("\n", -1);
            int whole = compressed.length() / 45;
            Check.due("lines", lines.length, whole + (last > 0 ? 1 : 0) + 4);
            Check.same("the first", lines[0], "begin 644 mail");
            for (int i = 1; i <= whole; i++) {
                Check.due("letters of line " + i, lines[i].length(), 61);
                Check.due("first letter of line " + i, lines[i].charAt(0), 32 + 45);
            }
            if (last > 0) {
                Check.due("letters of the last", lines[whole + 1].length(),
                        1 + (last + 2) / 3 * 4);
                Check.due("first letter of the last", lines[whole + 1].charAt(0), 32 + last);
            }
            Check.same("no bytes", lines[lines.length - 3], "`");
            Check.same("the end", lines[lines.length - 2], "end");
            Check.same("stage 2", Check.stage(chain, 2), Model.spell(compressed));
        }
        Check.due("a last line of 45 bytes", seen[0] ? 1 : 0, 1);
        Check.due("a last line of 1 byte", seen[1] ? 1 : 0, 1);
        Check.due("a last line of 2 bytes", seen[2] ? 1 : 0, 1);
        Check.due("a last line of 44 bytes", seen[44] ? 1 : 0, 1);
    }

    private static String piece(Chain chain, int k) {
        String part = Check.part(chain, k);
        return part.substring(part.indexOf('\n') + 1);
    }

    /** "pieces of L bytes (the last one may be less)" */
    private static void partsAreCutByLength() {
        Chain chain = unlikeFile(10, "");
        chain.pack(9, 4000);
        String text = Check.stage(chain, 2);
        int size = text.length();
        Check.due("of at least 80 bytes", size >= 80 ? 1 : 0, 1);
        Check.due("as long as the text", chain.pack(9, size), 1);
        Check.same("its piece", piece(chain, 1), text);
        Check.due("longer", chain.pack(9, size + 1), 1);
        Check.same("its piece", piece(chain, 1), text);
        Check.due("shorter by one", chain.pack(9, size - 1), 2);
        Check.same("its piece", piece(chain, 1), text.substring(0, size - 1));
        Check.same("its last piece", piece(chain, 2), text.substring(size - 1));
        Check.due("the least", chain.pack(9, 40), (size + 39) / 40);
        Check.same("its piece", piece(chain, 1), text.substring(0, 40));
        Check.same("its second piece", piece(chain, 2), text.substring(40, 80));
    }

    /** No part is without bytes: a text of three times L bytes has three parts. */
    private static void partsMayEndWithTheText() {
        int found = 0;
        for (int size = 30; size < 90 && found < 3; size++) {
            Chain chain = unlikeFile(size, "");
            chain.pack(9, 4000);
            String text = Check.stage(chain, 2);
            if (text.length() % 3 == 0) {
                int length = text.length() / 3;
                found++;
                Check.due("three parts", chain.pack(9, length), 3);
                Check.same("the last piece", piece(chain, 3), text.substring(2 * length));
                Check.noIndex("no part 4", () -> chain.part(4, -1));
            }
        }
        Check.due("texts of three times L bytes", found, 3);
    }

    /** "in digits of base 10 without zeros before them", with the checksum (0 .. 4294967295) */
    private static void partsHaveNoZerosBeforeDigits() {
        Chain chain = unlikeFile(3000, "");
        int parts = chain.pack(16, 40);
        Check.due("more than 100", parts > 100 ? 1 : 0, 1);
        String text = Check.stage(chain, 2);
        List<String> want = Model.parts(text, 40);
        boolean greatSum = false;
        for (int k = 1; k <= parts; k++) {
            String part = Check.part(chain, k);
            Check.same("part " + k, part, want.get(k - 1));
            String line = "PART " + k + " OF " + parts + " SIZE "
                    + Math.min(40, text.length() - 40 * (k - 1)) + " CKSUM ";
            Check.same("line of " + k, part.substring(0, line.length()), line);
            long sum = Long.parseLong(part.substring(line.length(), part.indexOf('\n')));
            greatSum |= sum > MAX;
        }
        Check.due("a checksum above 2147483647", greatSum ? 1 : 0, 1);
    }

    /** "IllegalArgumentException when width is not 9 .. 16, or length not 40 .. 4000." */
    private static void packTakesWidthsAndLengths() {
        Chain chain = new Chain();
        for (int width : new int[] {8, 17, 0, -1, -9, 256 + 9, MIN, MAX}) {
            Check.refused("pack(" + width + ", 40)", () -> chain.pack(width, 40));
            Check.refused("pack(" + width + ", 4000)", () -> chain.pack(width, 4000));
        }
        for (int length : new int[] {39, 4001, 0, 1, -1, -40, MIN, MAX}) {
            Check.refused("pack(9, " + length + ")", () -> chain.pack(9, length));
            Check.refused("pack(16, " + length + ")", () -> chain.pack(16, length));
        }
        Check.due("no stage then", chain.stage(1, 0), -1);
        Check.noIndex("no part then", () -> chain.part(1, -1));
        for (int width = 9; width <= 16; width++) {
            Check.due("pack(" + width + ", 40)", chain.pack(width, 40) > 1 ? 1 : 0, 1);
            Check.due("pack(" + width + ", 4000)", chain.pack(width, 4000), 1);
        }
        dueStages(unlikeFile(3000, ""), 16, 4000);
        dueStages(unlikeFile(3000, ""), 16, 3999);
    }

    /** "the parts there were are gone" */
    private static void packReplacesParts() {
        Chain chain = unlikeFile(300, "");
        int many = chain.pack(9, 40);
        Check.due("the last part", chain.part(many, -1) > 0 ? 1 : 0, 1);
        Check.noIndex("one more", () -> chain.part(many + 1, -1));
        chain.clear();
        Check.due("pack(10, 4000)", chain.pack(10, 4000), 1);
        Check.noIndex("an old part", () -> chain.part(2, -1));
        Check.noIndex("the last old part", () -> chain.part(many, -1));
        Check.due("width", chain.stage(1, 2), 138);
        Check.same("part 1", Check.part(chain, 1),
                Model.part(1, 1, Model.spell(Model.compress(TRAILER, 10))));
    }

    private static Chain owned(String path, int owner, int group) {
        Chain chain = new Chain();
        Check.file(chain, "b", "x");
        Check.file(chain, "n", "x");
        Check.type(chain, path);
        chain.add(0, 1, 0, owner, group, 0);
        return chain;
    }

    /** "-1: an owner or group above 262143", wherever it stands */
    private static void packNeedsSmallOwners() {
        for (String path : new String[] {"a", "m", "z"}) {
            Check.due("owner 262143", owned(path, 262143, 0).pack(9, 4000), 1);
            Check.due("group 262143", owned(path, 0, 262143).pack(9, 4000), 1);
            Check.due("owner 262144", owned(path, 262144, 0).pack(9, 4000), -1);
            Check.due("group 262144", owned(path, 0, 262144).pack(9, 4000), -1);
            Check.due("owner MAX", owned(path, MAX, 0).pack(9, 4000), -1);
            Check.due("group MAX", owned(path, 0, MAX).pack(9, 4000), -1);
        }
        Chain chain = owned("z", 262144, 0);
        chain.pack(9, 4000);
        Check.noIndex("no part", () -> chain.part(1, -1));
        Check.due("stage 1", chain.stage(1, 0), -1);
        Check.due("stage 2", chain.stage(2, 0), -1);
        chain.clear();
        Check.due("pack behind clear", chain.pack(9, 4000), 1);
    }

    /** "How many bytes part k has (from 1 on), for i = -1; else its byte i." */
    private static void partTellsItsSizeAndBytes() {
        Chain chain = new Chain();
        int parts = chain.pack(9, 40);
        String text = Check.stage(chain, 2);
        List<String> want = Model.parts(text, 40);
        for (int k = 1; k <= parts; k++) {
            Check.due("part(" + k + ", -1)", chain.part(k, -1), want.get(k - 1).length());
            Check.same("part " + k, Check.part(chain, k), want.get(k - 1));
        }
        Check.due("the first byte", chain.part(1, 0), 'P');
        Check.due("the last byte", chain.part(parts, chain.part(parts, -1) - 1), '\n');
    }

    /** "IndexOutOfBoundsException when there is none.": no part .. */
    private static void partNeedsAPart() {
        Chain chain = new Chain();
        Check.noIndex("part(1, -1), before pack", () -> chain.part(1, -1));
        Check.noIndex("part(1, 0), before pack", () -> chain.part(1, 0));
        int parts = chain.pack(9, 40);
        for (int k : new int[] {0, -1, parts + 1, 999, 1000, MIN, MAX}) {
            for (int i : new int[] {-1, 0, -2}) {
                Check.noIndex("part(" + k + ", " + i + ")", () -> chain.part(k, i));
            }
        }
    }

    /** .. or no byte. */
    private static void partNeedsAByte() {
        Chain chain = new Chain();
        int parts = chain.pack(9, 40);
        for (int k = 1; k <= parts; k++) {
            int asked = k;
            int size = chain.part(k, -1);
            Check.due("the last byte is one", chain.part(k, size - 1) >= 0 ? 1 : 0, 1);
            for (int i : new int[] {-2, size, size + 1, MIN, MAX}) {
                Check.noIndex("part(" + k + ", " + i + ")", () -> chain.part(asked, i));
            }
        }
    }

    /** "IllegalArgumentException for another what." */
    private static void stageHasAWhat() {
        Chain chain = new Chain();
        chain.pack(9, 40);
        for (int what : new int[] {-1, 3, 4, 256, MIN, MAX}) {
            for (int i : new int[] {0, -1, MAX}) {
                Check.refused("stage(" + what + ", " + i + ")", () -> chain.stage(what, i));
            }
        }
        for (int what = 0; what <= 2; what++) {
            int first = new int[] {'0', 31, 'b'}[what];
            Check.due("stage(" + what + ", 0)", chain.stage(what, 0), first);
        }
    }

    /** "1 and 2 have none before" */
    private static void stageHasNothingBeforePack() {
        Chain chain = new Chain();
        Check.file(chain, "a", "x");
        for (int i : new int[] {0, 1, 2, 3, 100, -1}) {
            Check.due("stage(1, " + i + ")", chain.stage(1, i), -1);
            Check.due("stage(2, " + i + ")", chain.stage(2, i), -1);
        }
        Check.due("stage(0, 0)", chain.stage(0, 0), '0');
    }

    /** "-1 behind its end, .. or when i is negative" */
    private static void stageHasEnds() {
        Chain chain = new Chain();
        chain.pack(9, 40);
        int[] last = {0, 0, '\n'};
        int[] sizes = {87, Model.compress(TRAILER, 9).length(),
            Model.spell(Model.compress(TRAILER, 9)).length()};
        for (int what = 0; what < 3; what++) {
            int size = sizes[what];
            Check.due("last byte of stage " + what, chain.stage(what, size - 1),
                    what == 1 ? Model.compress(TRAILER, 9).charAt(size - 1) : last[what]);
            for (int i : new int[] {-1, size, size + 1, MIN, MAX}) {
                Check.due("stage(" + what + ", " + i + ")", chain.stage(what, i), -1);
            }
        }
    }

    /** "the ARCHIVE of MINE"; "-1 .. for an archive with an owner or group above 262143" */
    private static void stageOfMineIsOfNow() {
        Chain chain = new Chain();
        Check.due("stage(0, 87)", chain.stage(0, 87), -1);
        Check.file(chain, "a", "x");
        Check.due("behind add", Check.stage(chain, 0).length(), 79 + 87);
        Check.link(chain, 0, "b");
        Check.same("behind link", Check.stage(chain, 0).substring(36, 42), "000002");
        Check.type(chain, "c");
        chain.add(1, 1, 0, 262143, 262143, 0);
        Check.due("owner and group 262143", Check.stage(chain, 0).length(), 79 + 79 + 78 + 87);
        for (int which = 0; which < 2; which++) {
            Chain great = chain.copy();
            Check.type(great, "d");
            great.add(1, 1, 0, which == 0 ? 262144 : 0, which == 1 ? 262144 : 0, 0);
            for (int i : new int[] {0, 1, 86, 87, 300, -1}) {
                Check.due("stage(0, " + i + "), 262144", great.stage(0, i), -1);
            }
            great.clear();
            Check.same("behind clear", Check.stage(great, 0), TRAILER);
        }
    }

    /** ".. or of what the latest pack() made of it" */
    private static void stageOfPackIsOfThen() {
        Chain chain = new Chain();
        chain.pack(9, 40);
        Check.file(chain, "a", "x");
        Check.same("stage 1", Check.stage(chain, 1), Model.compress(TRAILER, 9));
        Check.same("stage 2", Check.stage(chain, 2), Model.spell(Model.compress(TRAILER, 9)));
        String archive = Check.stage(chain, 0);
        chain.pack(12, 40);
        chain.clear();
        Check.same("stage 1 of a", Check.stage(chain, 1), Model.compress(archive, 12));
        Check.same("stage 2 of a", Check.stage(chain, 2),
                Model.spell(Model.compress(archive, 12)));
        Check.type(chain, "a");
        chain.forge(0, 16);
        Check.same("stage 1 behind forge", Check.stage(chain, 1), Model.compress(archive, 12));
    }
}
