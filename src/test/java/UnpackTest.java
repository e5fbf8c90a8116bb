import java.util.Map;
import java.util.TreeMap;

/** Promise 15 (unpack), and of the terms UNPACKED: what counts as 6, 7, 8, 9, and what does not. */
public final class UnpackTest {
    private static final int MAX = Integer.MAX_VALUE;
    private static final String END = Model.archive(new TreeMap<>());

    private UnpackTest() {}

    public static void main(String[] args) {
        unpackMakesTheTree();
        unpackReplacesTheTree();
        unpackOfTheGreatestTree();
        unpackOfWideCodes();
        unpackEmptiesTheBox();
        partsComeInAnyOrder();
        boxIsEmpty();
        partsAreMissing();
        textIsOneWhole();
        textHasItsFirstAndLastLines();
        linesHave45BytesButTheLast();
        lettersAreSixBits();
        bytesThatAreMissingAreZero();
        textHas48000Bytes();
        compressedBeginsWithItsWidth();
        codesAreOfTheTable();
        stringsAreTheLongest();
        clearIsPutWhenTheTableIsFull();
        widthsGrowWithTheTable();
        zerosArePutBehindClear();
        zerosFillTheLastByte();
        plainBytesAre16000();
        archiveEndsWithItsTrailer();
        headersHaveTheirDigits();
        headersHaveFields();
        timesAreInts();
        pathsAreSound();
        pathsAreInOrder();
        pathsAreInDirectories();
        entriesAreNumbered();
        kindsAreThree();
        bodiesAreOfTheirKind();
        sizesAreTrue();
        linksAreCounted();
        linksHaveAllInCommon();
        treesHaveFortyEntries();
        treesHaveSixThousandBytes();
        Check.end();
    }

    private static void passAll(Chain chain, int parts) {
        for (int k = parts; k >= 1; k--) {
            Check.due("pass(" + k + ", 0, 0)", chain.pass(k, 0, 0), 0);
        }
    }

    private static void sameTrees(Chain chain) {
        int count = chain.about(0, 0, 0);
        Check.due("about(1, 0, 0)", chain.about(1, 0, 0), count);
        for (int i = 0; i < count; i++) {
            for (int what = 1; what <= 9; what++) {
                Check.due("about(1, " + what + ", " + i + ")", chain.about(1, what, i),
                        chain.about(0, what, i));
            }
            Check.same("path " + i, Check.path(chain, 1, i), Check.path(chain, 0, i));
            Check.same("body " + i, Check.body(chain, 1, i), Check.body(chain, 0, i));
        }
    }

    /** "The box, UNPACKED, becomes YOURS: 0", with the W that the bytes have. */
    private static void unpackMakesTheTree() {
        for (int width = 9; width <= 16; width++) {
            Chain chain = new Chain();
            Check.directory(chain, "TRAILER!!!");
            Check.file(chain, "TRAILER!!!/TRAILER!!!", "\u0000\n\u00ff");
            Check.link(chain, 1, "A");
            Check.link(chain, 0, "z");
            Check.symlink(chain, "s", "/\u00ff");
            chain.type('o', 1);
            chain.add(1, 1, 4095, 262143, 262143, MAX);
            passAll(chain, chain.pack(width, 90));
            Check.due("unpack()", chain.unpack(), 0);
            sameTrees(chain);
        }
    }

    private static void unpackReplacesTheTree() {
        Chain chain = new Chain();
        Check.directory(chain, "d");
        Check.file(chain, "d/a", "hello");
        passAll(chain, chain.pack(9, 4000));
        Check.due("unpack() of two", chain.unpack(), 0);
        sameTrees(chain);
        chain.clear();
        Check.file(chain, "z", "other");
        passAll(chain, chain.pack(9, 4000));
        Check.due("unpack() of one", chain.unpack(), 0);
        sameTrees(chain);
        chain.clear();
        passAll(chain, chain.pack(9, 4000));
        Check.due("unpack() of none", chain.unpack(), 0);
        Check.due("entries", chain.about(1, 0, 0), 0);
    }

    /** 40 entries with paths and targets of 60 bytes, one of them with 6000 bytes of content. */
    private static void unpackOfTheGreatestTree() {
        Chain chain = new Chain();
        for (int i = 0; i < 39; i++) {
            Check.type(chain, (char) ('0' + i) + "q".repeat(59 + 60));
            chain.add(2, 60, 4095, 262143, 262143, MAX);
        }
        Check.type(chain, "z".repeat(60) + Check.repeat("12345678", 6000));
        Check.due("add", chain.add(1, 60, 4095, 262143, 262143, MAX), 40);
        passAll(chain, chain.pack(9, 40));
        Check.due("unpack()", chain.unpack(), 0);
        sameTrees(chain);
    }

    /** Codes of up to 13 bits, and CLEAR with W = 9 to 12. */
    private static void unpackOfWideCodes() {
        String content = Check.unlike(3303) + Check.unlike(3303).substring(903);
        for (int width = 9; width <= 16; width++) {
            Chain chain = new Chain();
            Check.file(chain, "a", content);
            passAll(chain, chain.pack(width, 4000));
            Check.due("unpack()", chain.unpack(), 0);
            Check.same("body", Check.body(chain, 1, 0), content);
        }
    }

    /** "with 0 the box is empty" */
    private static void unpackEmptiesTheBox() {
        Chain chain = new Chain();
        int parts = chain.pack(9, 40);
        passAll(chain, parts);
        Check.due("unpack()", chain.unpack(), 0);
        Check.due("unpack() again", chain.unpack(), 6);
        Check.due("empty()", chain.empty(), 0);
        Check.due("pass(1, 0, 0)", chain.pass(1, 0, 0), 0);
    }

    /** "its parts' pieces, in order, are a text" */
    private static void partsComeInAnyOrder() {
        String text = Model.spell(Model.compress(END, 9));
        int[][] orders = {{1, 2, 3}, {1, 3, 2}, {2, 1, 3}, {2, 3, 1}, {3, 1, 2}, {3, 2, 1}};
        int[][] cuts = {{20, 50}, {0, 40}, {40, 40}, {1, 2}, {0, 0},
            {text.length(), text.length()}};
        for (int[] order : orders) {
            for (int[] cut : cuts) {
                String[] pieces = {text.substring(0, cut[0]), text.substring(cut[0], cut[1]),
                    text.substring(cut[1])};
                Chain chain = new Chain();
                for (int k : order) {
                    Check.due("unpack() before " + k, chain.unpack(), 6);
                    Check.type(chain, Model.part(k, 3, pieces[k - 1]));
                    Check.due("receive() of " + k, chain.receive(), 0);
                }
                Check.due("unpack()", chain.unpack(), 0);
            }
        }
    }

    /** "6 .. or the box is empty" */
    private static void boxIsEmpty() {
        Chain chain = new Chain();
        Check.due("unpack() of a new box", chain.unpack(), 6);
        Check.type(chain, "x");
        chain.receive();
        Check.due("unpack() behind what did not come in", chain.unpack(), 6);
        chain.forge(2, 0);
        chain.empty();
        Check.due("unpack() behind empty()", chain.unpack(), 6);
    }

    /** "6 parts are missing": this counts before all that is wrong with those that are there. */
    private static void partsAreMissing() {
        for (int missing = 1; missing <= 3; missing++) {
            Chain chain = new Chain();
            for (int k = 1; k <= 3; k++) {
                if (k != missing) {
                    Check.type(chain, Model.part(k, 3, "no text"));
                    Check.due("receive() of " + k, chain.receive(), 0);
                }
            }
            Check.due("unpack() without " + missing, chain.unpack(), 6);
            Check.due("the box stays", chain.empty(), 2);
        }
        Chain one = new Chain();
        Check.type(one, Model.part(1, 2, Model.spell(Model.compress(END, 9))));
        one.receive();
        Check.due("unpack() of 1 of 2", one.unpack(), 6);
        Check.type(one, Model.part(2, 2, ""));
        one.receive();
        Check.due("unpack() of 2 of 2", one.unpack(), 0);
    }

    private static void dueUnpacked(String row, int what, int want) {
        Chain chain = new Chain();
        Check.type(chain, row);
        chain.forge(what, 9);
        Check.due("unpack() of " + what + ": " + row, chain.unpack(), want);
    }

    private static void dueText(String text, int want) {
        dueUnpacked(text, 2, want);
    }

    private static TreeMap<String, Model.Node> oneFile(String content, int time) {
        TreeMap<String, Model.Node> tree = new TreeMap<>();
        Model.Node node = node(1, content);
        node.time = time;
        tree.put("a", node);
        return tree;
    }

    /** "7 the text": each letter counts, and where it ends. */
    private static void textIsOneWhole() {
        String right = Model.spell(Model.compress(Model.archive(oneFile("hello", 0)), 9));
        dueText(right, 0);
        for (int at = 0; at < right.length(); at++) {
            for (String other : new String[] {" ", "`", "\n", "a", "!"}) {
                String text = right.substring(0, at) + other + right.substring(at + 1);
                dueText(text, Model.unpackText(text));
            }
            dueText(right.substring(0, at), 7);
            dueText(right.substring(0, at) + right.substring(at + 1), 7);
        }
        dueText(right + "\n", 7);
        dueText(right + "\0", 7);
        dueText(right + right, 7);
        dueText("\n" + right, 7);
    }

    /** "begin 644 mail, 10; .. a line without bytes; end, 10": of no bytes nothing else. */
    private static void textHasItsFirstAndLastLines() {
        dueText("begin 644 mail\n`\nend\n", 8);
        String[] wrong = {"", "\n", "begin 644 mail\n", "begin 644 mail\n`\n",
            "begin 644 mail\nend\n", "begin 644 mail\n`\nend", "begin 644 mail\n`\nend \n",
            "begin 644 mail\n`\nEnd\n", "begin 644 mail\n`\nen\n", "begin 644 mail\n`\n\nend\n",
            "begin 644 mail\n\n`\nend\n", "begin 644 mail\n`\n`\nend\n", "begin 600 mail\n`\nend\n",
            "begin 644 mall\n`\nend\n", "begin 644 mail \n`\nend\n", "begin  644 mail\n`\nend\n",
            "Begin 644 mail\n`\nend\n", "`\nend\n", "begin 644 mail\r\n`\r\nend\r\n",
            "begin 644 mail\n``\nend\n", "begin 644 mail\n`", "begin 644 mail\n`\ne"};
        for (String text : wrong) {
            dueText(text, 7);
        }
        // the line without bytes is 96, not 32
        dueText("begin 644 mail\n \nend\n", 7);
    }

    private static String zeros(int count) {
        return count == 0 ? "" : (char) (32 + count) + "`".repeat((count + 2) / 3 * 4) + "\n";
    }

    private static void dueLines(int want, int... counts) {
        StringBuilder text = new StringBuilder("begin 644 mail\n");
        for (int count : counts) {
            text.append(zeros(count));
        }
        dueText(text + "`\nend\n", want);
    }

    /** "for each 45 bytes (the last ones may be less) a line" */
    private static void linesHave45BytesButTheLast() {
        for (int count = 1; count <= 45; count++) {
            dueLines(8, count);
            dueLines(8, 45, count);
            dueLines(8, 45, 45, count);
            if (count < 45) {
                dueLines(7, count, count);
                dueLines(7, count, 45);
                dueLines(7, 45, count, 1);
                dueLines(7, count, 1);
            }
        }
        for (int count = 46; count < 64; count++) {
            dueLines(7, count);
            dueLines(7, 45, count);
        }
        // too many letters, or too few
        dueText("begin 644 mail\n!`````\n`\nend\n", 7);
        dueText("begin 644 mail\n!```\n`\nend\n", 7);
        dueText("begin 644 mail\n$````\n`\nend\n", 7);
        dueText("begin 644 mail\n#````````\n`\nend\n", 7);
        dueText("begin 644 mail\n!````\n`\nend\n", 8);
        dueText("begin 644 mail\n#````\n`\nend\n", 8);
    }

    /** "each 32 more than these, but 96 for 0": 33 .. 96, no others */
    private static void lettersAreSixBits() {
        for (int letter = 0; letter < 256; letter++) {
            boolean sound = letter >= 33 && letter <= 96;
            dueText("begin 644 mail\n#" + (char) letter + "```\n`\nend\n", sound ? 8 : 7);
            dueText("begin 644 mail\n#```" + (char) letter + "\n`\nend\n", sound ? 8 : 7);
        }
        for (int letter = 0; letter < 256; letter++) {
            // three bytes are the only ones with four letters that any is as good as another for
            boolean sound = letter == 33 || letter == 34 || letter == 35;
            dueText("begin 644 mail\n" + (char) letter + "````\n`\nend\n", sound ? 8 : 7);
        }
    }

    /** "(with 0 for those that are missing)" */
    private static void bytesThatAreMissingAreZero() {
        dueText("begin 644 mail\n!!```\n`\nend\n", 8);
        dueText("begin 644 mail\n!`0``\n`\nend\n", 8);
        dueText("begin 644 mail\n!`!``\n`\nend\n", 7);
        dueText("begin 644 mail\n!`(``\n`\nend\n", 7);
        dueText("begin 644 mail\n!``!`\n`\nend\n", 7);
        dueText("begin 644 mail\n!```!\n`\nend\n", 7);
        dueText("begin 644 mail\n\"``$`\n`\nend\n", 8);
        dueText("begin 644 mail\n\"``!`\n`\nend\n", 7);
        dueText("begin 644 mail\n\"``\"`\n`\nend\n", 7);
        dueText("begin 644 mail\n\"```!\n`\nend\n", 7);
        dueText("begin 644 mail\n#```!\n`\nend\n", 8);
    }

    private static void receiveText(Chain chain, int lines, String tail) {
        String line = zeros(45);
        int perPart = 125;
        int n = (lines + perPart - 1) / perPart + 1;
        for (int k = 1; k < n; k++) {
            int here = Math.min(perPart, lines - (k - 1) * perPart);
            Check.type(chain, Model.part(k, n, (k == 1 ? "begin 644 mail\n" : "")
                    + line.repeat(here)));
            Check.due("receive() of " + k, chain.receive(), 0);
        }
        Check.type(chain, Model.part(n, n, tail));
        Check.due("receive() of " + n, chain.receive(), 0);
    }

    /**
     * "7 .. (or it is more than 48000 bytes)": a right text of wrong bytes has 47997 bytes at
     * most, then 48001.
     */
    private static void textHas48000Bytes() {
        int[] last = {36, 39, 45};
        int[] sizes = {47997, 48001, 48009};
        for (int i = 0; i < last.length; i++) {
            Chain chain = new Chain();
            String tail = zeros(last[i]) + "`\nend\n";
            receiveText(chain, 773, tail);
            Check.due("bytes of the text", 15 + 773 * 62 + tail.length(), sizes[i]);
            int want = sizes[i] > 48000 ? 7 : 8;
            Check.due("unpack() of " + sizes[i], chain.unpack(), want);
            Check.due("unpack() again", chain.unpack(), want);
            Check.due("the box stays", chain.empty(), 8);
            passAll(chain, chain.pack(9, 40));
            Check.due("unpack() of another box", chain.unpack(), 0);
        }
        Chain chain = new Chain();
        receiveText(chain, 900, "`\nend\n");
        Check.due("unpack() of much more", chain.unpack(), 7);
    }

    private static void dueCompressed(String bytes, int want) {
        dueUnpacked(bytes, 1, want);
    }

    /** "31, 157, 128 + W (W .. 9 .. 16)", and "(Of no bytes there are no codes.)" */
    private static void compressedBeginsWithItsWidth() {
        dueCompressed("", 8);
        dueCompressed("\u001f", 8);
        dueCompressed("\u001f\u009d", 8);
        for (int third = 0; third < 256; third++) {
            boolean sound = third >= 137 && third <= 144;
            dueCompressed("\u001f\u009d" + (char) third, sound ? 9 : 8);
            dueCompressed("\u001f\u009d" + (char) third + "a\0", sound ? 9 : 8);
        }
        String archive = Model.archive(oneFile("hello", 0));
        for (int width = 9; width <= 16; width++) {
            String right = Model.compress(archive, width);
            dueCompressed(right, 0);
            dueCompressed("\u001e" + right.substring(1), 8);
            dueCompressed("\u0020" + right.substring(1), 8);
            dueCompressed("\u001f\u009c" + right.substring(2), 8);
            dueCompressed("\u001f\u009e" + right.substring(2), 8);
            dueCompressed(right.substring(0, 2) + (char) width + right.substring(3), 8);
            // no code of these is wider than nine bits: all widths have the same
            dueCompressed(right.substring(0, 2) + (char) 144 + right.substring(3), 0);
        }
    }

    private static void dueCodes(int want, int... codes) {
        for (int width = 9; width <= 16; width++) {
            Codes row = new Codes(width);
            for (int code : codes) {
                row.put(code, 9);
            }
            dueCompressed(row.row(), want);
        }
    }

    /** "0 .. 255 are the bytes alone, 256 is CLEAR, from 257 on strings come" */
    private static void codesAreOfTheTable() {
        dueCodes(9, 0);
        dueCodes(9, 255);
        dueCodes(8, 256);
        dueCodes(8, 257);
        dueCodes(8, 511);
        dueCodes(8, 97, 256);
        dueCodes(8, 97, 256, 97);
        // the string that comes into the table by this very code
        dueCodes(9, 97, 257);
        dueCodes(8, 97, 258);
        dueCodes(9, 97, 98, 257);
        dueCodes(9, 97, 98, 258);
        dueCodes(8, 97, 98, 259);
        dueCodes(9, 97, 257, 258);
        dueCodes(8, 97, 257, 259);
    }

    /** "The next string is always the longest one of the table that is a beginning .." */
    private static void stringsAreTheLongest() {
        dueCodes(9, 97, 97);
        dueCodes(8, 97, 97, 97);
        dueCodes(9, 97, 257, 257);
        dueCodes(8, 97, 257, 257, 97);
        dueCodes(8, 97, 257, 97, 257);
        dueCodes(9, 97, 98, 257, 259);
        dueCodes(8, 97, 98, 97, 98);
        dueCodes(9, 97, 98, 97);
        dueCodes(8, 97, 98, 257, 97, 98);
    }

    private static Codes each(String bytes, int greatest) {
        Codes codes = new Codes(greatest).putEach(bytes, 0, 256, 9);
        if (greatest > 9) {
            codes.putEach(bytes, 256, 768, 10);
        }
        return greatest > 10 ? codes.putEach(bytes, 768, 1792, 11) : codes;
    }

    /** "If the table has 2^W numbers then, CLEAR is put instead": if a byte is left. */
    private static void clearIsPutWhenTheTableIsFull() {
        for (int width = 9; width <= 11; width++) {
            int full = (1 << width) - 256;
            String most = Check.unlike(full);
            dueCompressed(each(most.substring(1), width).row(), 9);
            dueCompressed(each(most, width).row(), 9);
            dueCompressed(each(most, width).put(256, width).row(), 8);
            dueCompressed(each(most, width).putClear(width).row(), 8);
            dueCompressed(each(most, width).putClear(width).put(0, 9).row(), 9);
            dueCompressed(each(most, width).putClear(width).put(0, 9).put(257, 9).row(), 9);
            dueCompressed(each(most, width).putClear(width).put(257, 9).row(), 8);
            dueCompressed(each(most, width).putClear(width).put(256, 9).row(), 8);
            dueCompressed(each(most, width).put(0, width).row(), 8);
            dueCompressed(each(most, width).put(0, width + 1).row(), 8);
            // one code too early
            dueCompressed(each(most.substring(1), width).put(256, width).row(), 8);
            dueCompressed(each(most.substring(1), width).putClear(width).put(0, 9).row(), 8);
        }
    }

    /**
     * "one more from the code on before which the table's next number is greater than 2^width":
     * that is code 257, then code 769. What is put with another width is read as a code that is
     * not in the table, or as CLEAR.
     */
    private static void widthsGrowWithTheTable() {
        String bytes = Check.unlike(256);
        for (int width = 10; width <= 16; width++) {
            dueCompressed(each(bytes, width).row(), 9);
            dueCompressed(each(bytes, width).put(97, 10).put(128, 10).row(), 9);
            dueCompressed(each(bytes, width).put(255, 9).put(255, 9).row(), 8);
            dueCompressed(each(bytes, width).put(255, 9).put(255, 10).row(), 8);
            dueCompressed(each(bytes.substring(0, 255), width).put(97, 10).put(128, 10).row(), 8);
            // the greatest number that the table has then
            dueCompressed(each(bytes, width).put(512, 10).row(), 9);
            dueCompressed(each(bytes, width).put(513, 10).row(), 8);
        }
        String more = Check.unlike(768);
        for (int width = 11; width <= 16; width++) {
            dueCompressed(each(more, width).row(), 9);
            dueCompressed(each(more, width).put(97, 11).put(128, 11).row(), 9);
            dueCompressed(each(more, width).put(255, 10).put(255, 10).row(), 8);
            dueCompressed(each(more, width).put(255, 10).put(255, 11).row(), 8);
            dueCompressed(each(more.substring(0, 767), width).put(97, 11).put(128, 11).row(), 8);
            dueCompressed(each(more, width).put(1024, 11).row(), 9);
            dueCompressed(each(more, width).put(1025, 11).row(), 8);
        }
    }

    /** "also behind CLEAR, and whatever it was, zero bits are put up to a multiple of eight .." */
    private static void zerosArePutBehindClear() {
        for (int width = 9; width <= 11; width++) {
            String most = Check.unlike((1 << width) - 256);
            dueCompressed(each(most, width).put(256, width).put(0, 9).row(), 8);
            Codes few = each(most, width).put(256, width);
            Codes wrong = each(most, width).put(256, width);
            for (int i = 0; i < 6; i++) {
                few.put(0, width);
                wrong.put(0, width);
            }
            dueCompressed(few.put(0, 9).row(), 8);
            dueCompressed(wrong.put(1 << width - 1, width).put(0, 9).row(), 8);
        }
        String twice = Check.unlike(513);
        dueCompressed(new Codes(9).putEach(twice, 0, 256, 9).putClear(9)
                .putEach(twice, 256, 512, 9).putClear(9).putEach(twice, 512, 513, 9).row(), 9);
        dueCompressed(new Codes(9).putEach(twice, 0, 256, 9).putClear(9)
                .putEach(twice, 256, 513, 9).row(), 8);
        dueCompressed(new Codes(9).putEach(twice, 0, 256, 9).putClear(9)
                .putEach(twice, 256, 512, 9).put(256, 9).putEach(twice, 512, 513, 9).row(), 8);
    }

    /** "At the end zero bits fill the last byte.": they do not make another. */
    private static void zerosFillTheLastByte() {
        for (int bit = 1; bit < 8; bit++) {
            dueCompressed("\u001f\u009d\u0090a" + (char) (1 << bit), 8);
        }
        dueCompressed("\u001f\u009d\u0090a\0", 9);
        dueCompressed("\u001f\u009d\u0090a", 8);
        dueCompressed("\u001f\u009d\u0090\0", 8);
        // a byte 0, or two of them, and the next ones have a code of their own
        dueCompressed("\u001f\u009d\u0090a\0\0", 9);
        dueCompressed("\u001f\u009d\u0090a\0\0\0", 9);
        dueCompressed("\u001f\u009d\u0090a\0\0\0\0", 8);
        // eight codes of nine bits leave nothing to fill
        Codes eight = new Codes(9).putEach("abcdefgh", 0, 8, 9);
        dueCompressed(eight.row(), 9);
        dueCompressed(eight.row() + "\0", 8);
        String right = Model.compress(Model.archive(oneFile("hello", 0)), 9);
        for (String more : new String[] {"\0", "\0\0", "\0\0\0", "a"}) {
            dueCompressed(right + more, Model.unpackText(Model.spell(right + more)));
        }
        for (int size = 0; size < right.length(); size++) {
            String cut = right.substring(0, size);
            dueCompressed(cut, Model.unpackText(Model.spell(cut)));
        }
    }

    /** "8 .. or what they were more than 16000": 16000 are no archive. */
    private static void plainBytesAre16000() {
        for (int width = 9; width <= 16; width++) {
            dueCompressed(Model.compress("\0".repeat(15999), width), 9);
            dueCompressed(Model.compress("\0".repeat(16000), width), 9);
            dueCompressed(Model.compress("\0".repeat(16001), width), 8);
            dueCompressed(Model.compress("\0".repeat(40000), width), 8);
        }
    }

    private static void dueArchive(String row, int want) {
        dueUnpacked(row, 0, want);
    }

    /** "at last a header with the path TRAILER!!! alone", "Of the trailer all are 0, but .." */
    private static void archiveEndsWithItsTrailer() {
        String right = Model.archive(oneFile("hello", 5));
        dueArchive(right, 0);
        dueArchive(END, 0);
        dueArchive("", 9);
        dueArchive(right + "\0", 9);
        dueArchive(right + right, 9);
        dueArchive(END + END, 9);
        dueArchive(END + "\0", 9);
        dueArchive(END + right, 9);
        dueArchive(right.substring(0, right.length() - 87), 9);
        for (int at = 0; at < END.length(); at++) {
            char other = END.charAt(at) == '0' ? '1' : '0';
            dueArchive(END.substring(0, at) + other + END.substring(at + 1), 9);
            dueArchive(END.substring(0, at), 9);
        }
        for (int at = 0; at < right.length(); at++) {
            dueArchive(right.substring(0, at), 9);
            dueArchive(right.substring(0, at) + right.substring(at + 1), 9);
        }
    }

    /** "A header has digits of base 8" */
    private static void headersHaveTheirDigits() {
        String right = Model.archive(oneFile("hello", 5));
        for (int at = 0; at < 76; at++) {
            for (char other : new char[] {'8', '9', '/', ' ', '-', 0}) {
                dueArchive(right.substring(0, at) + other + right.substring(at + 1), 9);
            }
        }
    }

    /**
     * 070707, device, number, links, 000000 and sizes are due; modes, owners, groups and times are
     * free; the file could be a symlink.
     */
    private static void headersHaveFields() {
        String right = Model.archive(oneFile("hello", 5));
        for (int at = 0; at < 76; at++) {
            boolean free = at >= 20 && at < 36 || at >= 48 && at < 59;
            for (char other = '0'; other <= '7'; other++) {
                boolean great = at == 48 && other > '1';
                boolean same = other == right.charAt(at) || at == 19 && other == '2';
                dueArchive(right.substring(0, at) + other + right.substring(at + 1),
                        same || free && !great ? 0 : 9);
            }
        }
    }

    /** "a TIME (0 .. 2147483647)": eleven digits could tell more. */
    private static void timesAreInts() {
        String right = Model.archive(oneFile("hello", 0));
        String[] times = {"00000000000", "17777777777", "20000000000", "37777777777",
            "40000000000", "77777777777"};
        for (String time : times) {
            Chain chain = new Chain();
            Check.type(chain, right.substring(0, 48) + time + right.substring(59));
            chain.forge(0, 9);
            boolean sound = time.charAt(0) < '2';
            Check.due("unpack() of time " + time, chain.unpack(), sound ? 0 : 9);
            if (sound) {
                Check.due("time", chain.about(1, 5, 0), Integer.parseInt(time, 8));
            }
        }
    }

    private static Model.Node node(int kind, String body) {
        Model.Node node = new Model.Node();
        node.kind = kind;
        node.body = body;
        return node;
    }

    private static String entry(String path, Model.Node node, int number, int links) {
        return Model.header(path, node, number, links) + path + "\0" + node.body;
    }

    private static void pathsAreSound() {
        for (String path : new String[] {"", ".", "..", "/", "/a", "a/", "a\0b", "\0", "x/a",
            "p".repeat(61), "p".repeat(200)}) {
            for (int kind = 0; kind < 3; kind++) {
                dueArchive(entry(path, node(kind, kind == 0 ? "" : "x"), 1, 1) + END, 9);
            }
        }
        for (String path : new String[] {"p".repeat(60), "p", "...", "TRAILER!!!", "\u0001",
            "\u00ff"}) {
            for (int kind = 0; kind < 3; kind++) {
                dueArchive(entry(path, node(kind, kind == 0 ? "" : "x"), 1, 1) + END, 0);
            }
        }
        String dot = entry("d", node(0, ""), 1, 1);
        for (String path : new String[] {"d/.", "d/..", "d/", "d//", "d//a", "d/\0", "d/a/"}) {
            dueArchive(dot + entry(path, node(1, "x"), 2, 1) + END, 9);
        }
    }

    /** "of each entry, in order", "no two the same" */
    private static void pathsAreInOrder() {
        String a = entry("a", node(0, ""), 1, 1);
        dueArchive(a + entry("b", node(0, ""), 2, 1) + END, 0);
        dueArchive(a + entry("a", node(0, ""), 2, 1) + END, 9);
        dueArchive(a + entry("A", node(0, ""), 2, 1) + END, 9);
        dueArchive(a + entry("\u00ff", node(0, ""), 2, 1) + END, 0);
        dueArchive(entry("\u00ff", node(0, ""), 1, 1) + entry("a", node(0, ""), 2, 1) + END, 9);
        dueArchive(a + entry("a.", node(0, ""), 2, 1) + END, 0);
        dueArchive(entry("a.", node(0, ""), 1, 1) + entry("a", node(0, ""), 2, 1) + END, 9);
        dueArchive(a + entry("a.", node(0, ""), 2, 1) + entry("a/b", node(0, ""), 3, 1) + END, 0);
        dueArchive(a + entry("a/b", node(0, ""), 2, 1) + entry("a.", node(0, ""), 3, 1) + END, 9);
    }

    /** "what stands before the last 47 of a path is the path of a directory" */
    private static void pathsAreInDirectories() {
        String b = entry("a/b", node(1, "x"), 2, 1);
        dueArchive(entry("a", node(0, ""), 1, 1) + b + END, 0);
        dueArchive(entry("a", node(0, ""), 1, 1) + entry("a/b/c", node(1, "x"), 2, 1) + END, 9);
        dueArchive(entry("a", node(1, ""), 1, 1) + b + END, 9);
        dueArchive(entry("a", node(2, "a"), 1, 1) + b + END, 9);
        dueArchive(entry("a/b", node(1, "x"), 1, 1) + END, 9);
        dueArchive(entry("a/b", node(1, "x"), 1, 1) + entry("a", node(0, ""), 2, 1) + END, 9);
    }

    /** "entries are numbered 1, 2, .. in order" */
    private static void entriesAreNumbered() {
        String a = entry("a", node(0, ""), 1, 1);
        dueArchive(a + entry("b", node(0, ""), 2, 1) + END, 0);
        for (int number : new int[] {0, 1, 3, 4, 0777777}) {
            dueArchive(a + entry("b", node(0, ""), number, 1) + END, 9);
            dueArchive(a + entry("b", node(1, "x"), number, 1) + END, 9);
        }
        for (int number : new int[] {0, 2, 3, 0777777}) {
            dueArchive(entry("a", node(0, ""), number, 1) + END, 9);
            dueArchive(entry("a", node(1, "x"), number, 1) + END, 9);
        }
        String c = entry("c", node(1, ""), 3, 1);
        dueArchive(a + entry("b", node(1, "x"), 2, 1) + c + END, 0);
    }

    /** "040000, 100000 or 120000 (base 8) for the kinds" */
    private static void kindsAreThree() {
        String right = entry("a", node(1, ""), 1, 1) + END;
        for (int kind = 0; kind < 64; kind++) {
            String digits = "" + kind / 8 + kind % 8;
            dueArchive(right.substring(0, 18) + digits + right.substring(20),
                    digits.equals("04") || digits.equals("10") ? 0 : 9);
        }
        String link = entry("a", node(2, "t"), 1, 1) + END;
        for (int kind = 0; kind < 64; kind++) {
            String digits = "" + kind / 8 + kind % 8;
            dueArchive(link.substring(0, 18) + digits + link.substring(20),
                    digits.equals("10") || digits.equals("12") ? 0 : 9);
        }
    }

    /** "of a file its content, of a symlink its target", of a directory nothing */
    private static void bodiesAreOfTheirKind() {
        dueArchive(entry("a", node(0, ""), 1, 1) + END, 0);
        dueArchive(entry("a", node(0, "x"), 1, 1) + END, 9);
        dueArchive(entry("a", node(1, ""), 1, 1) + END, 0);
        dueArchive(entry("a", node(1, "\0"), 1, 1) + END, 0);
        dueArchive(entry("a", node(1, END), 1, 1) + END, 0);
        dueArchive(entry("a", node(2, ""), 1, 1) + END, 9);
        dueArchive(entry("a", node(2, "x"), 1, 1) + END, 0);
        dueArchive(entry("a", node(2, "\0"), 1, 1) + END, 9);
        dueArchive(entry("a", node(2, "x\0"), 1, 1) + END, 9);
        dueArchive(entry("a", node(2, "t".repeat(60)), 1, 1) + END, 0);
        dueArchive(entry("a", node(2, "t".repeat(61)), 1, 1) + END, 9);
    }

    /** "how many bytes the path has, with the byte 0 (6); how many bytes come behind that (11)" */
    private static void sizesAreTrue() {
        String right = entry("a", node(1, ""), 1, 1) + END;
        dueArchive(right, 0);
        for (String size : new String[] {"00000000001", "00000000127", "00000000130",
            "00000100000", "17777777777", "20000000000", "37777777777", "40000000000",
            "77777777777"}) {
            dueArchive(right.substring(0, 65) + size + right.substring(76), 9);
        }
        for (String size : new String[] {"000000", "000001", "000003", "000075", "777777"}) {
            dueArchive(right.substring(0, 59) + size + right.substring(65), 9);
        }
        // the byte 0 behind the path
        dueArchive(right.substring(0, 77) + '0' + right.substring(78), 9);
        dueArchive(right.substring(0, 77) + right.substring(78), 9);
    }

    /** "how many links it is one of, with itself (6; 1 for all but files)" */
    private static void linksAreCounted() {
        Model.Node file = node(1, "body");
        String two = entry("a", file, 1, 2) + entry("b", file, 1, 2);
        dueArchive(two + END, 0);
        dueArchive(entry("a", file, 1, 1) + entry("b", file, 2, 1) + END, 0);
        dueArchive(entry("a", file, 1, 0) + END, 9);
        dueArchive(entry("a", file, 1, 2) + END, 9);
        dueArchive(entry("a", file, 1, 2) + entry("b", file, 2, 2) + END, 9);
        dueArchive(entry("a", file, 1, 1) + entry("b", file, 1, 2) + END, 9);
        dueArchive(entry("a", file, 1, 2) + entry("b", file, 1, 1) + END, 9);
        dueArchive(entry("a", file, 1, 3) + entry("b", file, 1, 3) + END, 9);
        dueArchive(entry("a", file, 2, 2) + entry("b", file, 2, 2) + END, 9);
        String three = entry("a", file, 1, 3) + entry("b", file, 1, 3);
        dueArchive(three + entry("c", file, 1, 3) + END, 0);
        dueArchive(three + entry("c", file, 2, 3) + END, 9);
        dueArchive(three + entry("c", file, 3, 3) + END, 9);
        // the number of the second of them is not the first one's
        dueArchive(two.replace("000002000000", "000003000000") + entry("c", file, 2, 3) + END, 9);
        for (int kind : new int[] {0, 2}) {
            Model.Node other = node(kind, kind == 0 ? "" : "body");
            dueArchive(entry("a", other, 1, 1) + END, 0);
            dueArchive(entry("a", other, 1, 0) + END, 9);
            dueArchive(entry("a", other, 1, 2) + END, 9);
            dueArchive(entry("a", other, 1, 2) + entry("b", other, 1, 2) + END, 9);
            dueArchive(entry("a", file, 1, 2) + entry("b", other, 1, 2) + END, 9);
            dueArchive(entry("a", other, 1, 2) + entry("b", file, 1, 2) + END, 9);
        }
    }

    /** "they have content and all of these in common" */
    private static void linksHaveAllInCommon() {
        String a = entry("a", node(1, "body"), 1, 2);
        for (int what = 0; what < 8; what++) {
            String[] bodies = {"bodi", "bodys", "bod", ""};
            Model.Node other = node(1, what < 4 ? bodies[what] : "body");
            other.mode = what == 4 ? 1 : 0;
            other.owner = what == 5 ? 1 : 0;
            other.group = what == 6 ? 1 : 0;
            other.time = what == 7 ? 1 : 0;
            dueArchive(a + entry("b", other, 1, 2) + END, 9);
            dueArchive(entry("a", node(1, "body"), 1, 1) + entry("b", other, 2, 1) + END, 0);
        }
    }

    private static String manyEntries(int count) {
        StringBuilder row = new StringBuilder();
        for (int i = 0; i < count; i++) {
            row.append(entry("" + (char) ('A' + i), node(0, ""), i + 1, 1));
        }
        return row + END;
    }

    /** "9 the archive": "(of at most 40 entries, ..)" */
    private static void treesHaveFortyEntries() {
        dueArchive(manyEntries(39), 0);
        dueArchive(manyEntries(40), 0);
        dueArchive(manyEntries(41), 9);
        dueArchive(manyEntries(42), 9);
    }

    private static void dueContents(int size, int links, int want) {
        TreeMap<String, Model.Node> tree = oneFile("x".repeat(size), 0);
        for (int i = 1; i < links; i++) {
            tree.put("" + (char) ('a' + i), tree.firstEntry().getValue());
        }
        StringBuilder row = new StringBuilder();
        for (Map.Entry<String, Model.Node> each : tree.entrySet()) {
            row.append(entry(each.getKey(), each.getValue(), 1, links));
        }
        dueArchive(row + END, want);
    }

    /** "(of .. 6000 bytes of contents)", "those of links each time; targets are none" */
    private static void treesHaveSixThousandBytes() {
        dueContents(6000, 1, 0);
        dueContents(6001, 1, 9);
        dueContents(3000, 2, 0);
        dueContents(3001, 2, 9);
        dueContents(1500, 4, 0);
        dueContents(1501, 4, 9);
        String great = entry("a", node(1, "x".repeat(5999)), 1, 1);
        dueArchive(great + entry("b", node(1, "x"), 2, 1) + END, 0);
        dueArchive(great + entry("b", node(1, "xy"), 2, 1) + END, 9);
        dueArchive(great + entry("b", node(1, "x"), 2, 1) + entry("c", node(1, "x"), 3, 1) + END,
                9);
        dueArchive(great + entry("b", node(1, "x"), 2, 1) + entry("c", node(2, "xyz"), 3, 1) + END,
                0);
    }
}
