import java.util.Map;
import java.util.TreeMap;

/** Promise 15: unpack. */
public final class UnpackTest {
    private UnpackTest() {}

    public static void main(String[] args) {
        unpackMakesTheTree();
        unpackOfTheGreatestTree();
        unpackOfWideCodes();
        unpackNeedsAllParts();
        unpackKeepsWhatThereWas();
        unpackJudgesTexts();
        unpackJudgesTheLengthOfTexts();
        unpackJudgesCompressedBytes();
        unpackJudgesTheLengthOfBytes();
        unpackJudgesArchives();
        unpackJudgesLinks();
        unpackJudgesTheSizeOfTrees();
        Check.end();
    }

    private static void passAll(MailChain chain, int parts) {
        for (int k = parts; k >= 1; k--) {
            Check.due("pass(" + k + ", 0, 0)", chain.pass(k, 0, 0), 0);
        }
    }

    private static void sameTrees(MailChain chain) {
        int count = chain.about(0, 0, 0);
        Check.due("about(1, 0, 0)", chain.about(1, 0, 0), count);
        for (int i = 0; i < count; i++) {
            for (int what = 1; what <= 9; what++) {
                Check.due("about(1, " + what + ", " + i + ")", chain.about(1, what, i),
                        chain.about(0, what, i));
            }
            Check.same("path " + i, Check.path(chain, 1, i), Check.path(chain, 0, i));
            Check.same("body " + i, Check.body(chain, 1, i), Check.body(chain, 0, i));
        }
    }

    private static void unpackMakesTheTree() {
        MailChain chain = new MailChain();
        Check.directory(chain, "TRAILER!!!");
        Check.file(chain, "TRAILER!!!/TRAILER!!!", "\u0000\n\u00ff");
        Check.link(chain, 1, "A");
        Check.link(chain, 0, "z");
        Check.symlink(chain, "s", "/\u00ff");
        chain.type('o', 1);
        chain.add(1, 1, 4095, 262143, 262143, Integer.MAX_VALUE);
        for (int width = 9; width <= 16; width++) {
            passAll(chain, chain.pack(width, 90));
            chain.type('t', 1);
            Check.due("unpack()", chain.unpack(), 0);
            Check.due("unpack leaves the tape", chain.type('t', 1), 2 * (width - 8));
            sameTrees(chain);
            Check.due("the box is empty", chain.empty(), 0);
        }
        chain.clear();
        passAll(chain, chain.pack(9, 4000));
        Check.due("unpack() of nothing", chain.unpack(), 0);
        Check.due("about(1, 0, 0)", chain.about(1, 0, 0), 0);
    }

    private static void unpackOfTheGreatestTree() {
        MailChain chain = new MailChain();
        String tail = "q".repeat(59);
        for (int i = 0; i < 34; i++) {
            String path = (char) ('0' + i) + tail;
            Check.typeRepeated(chain, path, "t", 60);
            chain.add(2, 60, 4095, 262143, 262143, Integer.MAX_VALUE);
        }
        for (int i = 34; i < 40; i++) {
            Check.typeRepeated(chain, (char) ('0' + i) + tail, (char) i + "abcdefg", 1000);
            chain.add(1, 60, 0, 0, 0, 0);
        }
        Check.due("about(0, 0, 0)", chain.about(0, 0, 0), 40);
        passAll(chain, chain.pack(9, 40));
        Check.due("unpack()", chain.unpack(), 0);
        sameTrees(chain);
    }

    /** Bytes that no string repeats need all widths that there are. */
    private static void unpackOfWideCodes() {
        for (int width = 9; width <= 16; width++) {
            MailChain chain = new MailChain();
            StringBuilder content = new StringBuilder();
            int x = width;
            for (int i = 0; i < 3500; i++) {
                x = x * 1103515245 + 12345;
                content.append((char) (x >>> 16 & 255));
            }
            Check.file(chain, "a", content.toString());
            passAll(chain, chain.pack(width, 4000));
            Check.due("unpack()", chain.unpack(), 0);
            Check.same("body", Check.body(chain, 1, 0), content.toString());
        }
    }

    private static void unpackNeedsAllParts() {
        MailChain chain = new MailChain();
        Check.due("unpack() of no box", chain.unpack(), 6);
        int parts = chain.pack(9, 40);
        Check.due("parts", parts, 2);
        chain.pass(2, 0, 0);
        Check.due("unpack() without part 1", chain.unpack(), 6);
        Check.due("the box stays", chain.empty(), 1);
        chain.pass(1, 0, 0);
        Check.due("unpack() without part 2", chain.unpack(), 6);
        chain.pass(2, 0, 0);
        Check.due("unpack()", chain.unpack(), 0);
        Check.due("unpack() again", chain.unpack(), 6);
    }

    private static void unpackKeepsWhatThereWas() {
        MailChain chain = new MailChain();
        Check.directory(chain, "d");
        Check.file(chain, "d/a", "hello");
        Check.link(chain, 1, "d/b");
        passAll(chain, chain.pack(12, 4000));
        Check.due("unpack()", chain.unpack(), 0);
        String whole = Model.archive(oneFile("other", 3));
        String[] wrong = {"x", whole.substring(0, whole.length() - 1), whole + "\0"};
        for (String row : wrong) {
            Check.type(chain, row);
            chain.forge(0, 12);
            Check.due("unpack()", chain.unpack(), 9);
            sameTrees(chain);
            Check.due("unpack() again", chain.unpack(), 9);
            Check.due("the box stays", chain.empty(), 1);
        }
        chain.forge(2, 0);
        Check.due("unpack()", chain.unpack(), 7);
        sameTrees(chain);
        chain.forge(1, 0);
        Check.due("unpack()", chain.unpack(), 8);
        sameTrees(chain);
        chain.clear();
        Check.same("YOURS is its own", Check.body(chain, 1, 1), "hello");
    }

    private static void dueUnpacked(String row, int what, int want) {
        MailChain chain = new MailChain();
        Check.type(chain, row);
        chain.forge(what, 9);
        Check.due("unpack() of " + what + ": " + row, chain.unpack(), want);
    }

    private static TreeMap<String, Model.Node> oneFile(String content, int time) {
        TreeMap<String, Model.Node> tree = new TreeMap<>();
        Model.Node node = new Model.Node();
        node.kind = 1;
        node.time = time;
        node.body = content;
        tree.put("a", node);
        return tree;
    }

    private static void unpackJudgesTexts() {
        String right = Model.spell(Model.compress(Model.archive(oneFile("hello", 0)), 9));
        dueUnpacked(right, 2, 0);
        for (int at = 0; at < right.length(); at++) {
            String other = right.charAt(at) == '`' ? " " : "`";
            dueUnpacked(right.substring(0, at) + other + right.substring(at + 1), 2,
                    Model.unpackText(right.substring(0, at) + other + right.substring(at + 1)));
            dueUnpacked(right.substring(0, at), 2, 7);
        }
        dueUnpacked(right + "\n", 2, 7);
        dueUnpacked(right + right, 2, 7);
        dueUnpacked(right.replace("begin 644", "begin 600"), 2, 7);
        dueUnpacked(right.replace("begin 644 mail", "begin 644 mall"), 2, 7);
        dueUnpacked(right.replace("`\nend", " \nend"), 2, 7);
        dueUnpacked(right.replace("`\nend", "end"), 2, 7);
        dueUnpacked(right.replace("\nend\n", "\n\nend\n"), 2, 7);
        dueUnpacked(right.replace("\nend\n", "\nEnd\n"), 2, 7);
        dueUnpacked(right.replace("\n", "\r\n"), 2, 7);
        // the same bytes in shorter lines, or with bits where no byte is
        dueUnpacked("begin 644 mail\n!'P``\n!G0``\n`\nend\n", 2, 7);
        dueUnpacked("begin 644 mail\n\"'YT!\n`\nend\n", 2, 7);
        dueUnpacked("begin 644 mail\n\"'YT`\n`\nend\n", 2, 8);
        dueUnpacked("begin 644 mail\n\"'YT \n`\nend\n", 2, 7);
        dueUnpacked("begin 644 mail\n`\nend\n", 2, 8);
        dueUnpacked("begin 644 mail\nend\n", 2, 7);
        dueUnpacked("begin 644 mail\n`\n", 2, 7);
        dueUnpacked("", 2, 7);
        // a line of 46 bytes
        String line = "N" + "!".repeat(64) + "\n";
        dueUnpacked("begin 644 mail\n" + line + "`\nend\n", 2, 7);
    }

    private static void receiveText(MailChain chain, int lines, String tail) {
        String line = "M" + "`".repeat(60) + "\n";
        String begin = "begin 644 mail\n";
        int perPart = 125;
        int n = (lines + perPart - 1) / perPart + 1;
        for (int k = 1; k < n; k++) {
            int here = Math.min(perPart, lines - (k - 1) * perPart);
            String piece = (k == 1 ? begin : "") + line.repeat(here);
            String part = Model.part(k, n, piece);
            String before = part.substring(0, part.length() - line.length() * here);
            Check.typeRepeated(chain, before, line, line.length() * here);
            Check.due("receive() of " + k, chain.receive(), 0);
        }
        Check.type(chain, Model.part(n, n, tail));
        Check.due("receive() of " + n, chain.receive(), 0);
    }

    /** A right spelling of wrong bytes: 8, unless it is longer than 48000 bytes. */
    private static void unpackJudgesTheLengthOfTexts() {
        int[] last = {36, 39, 45};
        int[] want = {8, 7, 7};
        for (int i = 0; i < last.length; i++) {
            MailChain chain = new MailChain();
            String tail = Model.spell("\0".repeat(last[i])).substring(15);
            receiveText(chain, 773, tail);
            int size = 15 + 773 * 62 + tail.length();
            Check.due("size above 48000", size > 48000 ? 7 : 8, want[i]);
            Check.due("unpack() of " + size, chain.unpack(), want[i]);
            Check.due("unpack() again", chain.unpack(), want[i]);
            Check.due("the box stays", chain.empty(), 8);
            passAll(chain, chain.pack(9, 40));
            Check.due("unpack() of another box", chain.unpack(), 0);
        }
        MailChain chain = new MailChain();
        receiveText(chain, 900, "`\nend\n");
        Check.due("unpack() of much more", chain.unpack(), 7);
    }

    private static void unpackJudgesCompressedBytes() {
        String archive = Model.archive(oneFile("hello", 0));
        for (int width = 9; width <= 16; width++) {
            String right = Model.compress(archive, width);
            dueUnpacked(right, 1, 0);
            // byte 0 may be the rest of a code that stands for it, or nothing
            dueUnpacked(right + "\0", 1, Model.unpackText(Model.spell(right + "\0")));
            dueUnpacked(right + "\0\0\0", 1, Model.unpackText(Model.spell(right + "\0\0\0")));
            dueUnpacked(right.substring(0, 2) + (char) 136 + right.substring(3), 1, 8);
            dueUnpacked(right.substring(0, 2) + (char) 145 + right.substring(3), 1, 8);
            dueUnpacked(right.substring(0, 2) + (char) width + right.substring(3), 1, 8);
            dueUnpacked("\u001e" + right.substring(1), 1, 8);
            dueUnpacked("\u001f\u009c" + right.substring(2), 1, 8);
        }
        String right = Model.compress(archive, 9);
        dueUnpacked(right.substring(0, 2) + (char) 144 + right.substring(3), 1, 0);
        dueUnpacked("", 1, 8);
        dueUnpacked("\u001f", 1, 8);
        dueUnpacked("\u001f\u009d", 1, 8);
        dueUnpacked("\u001f\u009d\u0090", 1, 9);
        dueUnpacked("\u001f\u009d\u0090\0", 1, 8);
        dueUnpacked("\u001f\u009d\u0090a\0", 1, 9);
        // bits behind the last code, no code of the table, CLEAR where there is none
        dueUnpacked("\u001f\u009d\u0090a\u0002", 1, 8);
        dueUnpacked("\u001f\u009d\u0090\u0000\u0001", 1, 8);
        dueUnpacked("\u001f\u009d\u0090\u0001\u0001", 1, 8);
        dueUnpacked(codes(97, 256), 1, 8);
        dueUnpacked(codes(97, 257), 1, 9);
        dueUnpacked(codes(97, 258), 1, 8);
        dueUnpacked(codes(97, 97), 1, 9);
        // aaa is a, aa: not a, a, a
        dueUnpacked(codes(97, 97, 97), 1, 8);
        dueUnpacked(codes(97, 257, 257), 1, 9);
        dueUnpacked(codes(97, 257, 257, 97), 1, 8);
        dueUnpacked(codes(97, 257, 97, 257), 1, 8);
        dueUnpacked(codes(97, 257, 258), 1, 9);
    }

    private static String codes(int... codes) {
        StringBuilder bytes = new StringBuilder("\u001f\u009d\u0090");
        int hold = 0;
        int held = 0;
        for (int code : codes) {
            hold |= code << held;
            held += 9;
            for (; held >= 8; held -= 8) {
                bytes.append((char) (hold & 255));
                hold >>= 8;
            }
        }
        return held > 0 ? bytes.append((char) hold).toString() : bytes.toString();
    }

    /** 16000 bytes are no archive; one more, and already the compressed bytes are wrong. */
    private static void unpackJudgesTheLengthOfBytes() {
        for (int width : new int[] {9, 12, 16}) {
            dueUnpacked(Model.compress("\0".repeat(16000), width), 1, 9);
            dueUnpacked(Model.compress("\0".repeat(16001), width), 1, 8);
            dueUnpacked(Model.compress("\0".repeat(40000), width), 1, 8);
        }
    }

    private static void dueArchive(String row, int want) {
        dueUnpacked(row, 0, want);
    }

    private static void unpackJudgesArchives() {
        String right = Model.archive(oneFile("hello", 5));
        dueArchive(right, 0);
        dueArchive("", 9);
        dueArchive(right + "\0", 9);
        dueArchive(right + right, 9);
        String trailer = Model.archive(new TreeMap<>());
        dueArchive(trailer, 0);
        dueArchive(trailer + trailer, 9);
        for (int at = 0; at < trailer.length(); at++) {
            char other = trailer.charAt(at) == '0' ? '1' : '0';
            dueArchive(trailer.substring(0, at) + other + trailer.substring(at + 1), 9);
            dueArchive(trailer.substring(0, at), 9);
        }
        // device, number, kind, links, second device, size of the path
        for (int at : new int[] {0, 5, 6, 11, 12, 17, 18, 19, 36, 41, 42, 47, 59, 64, 65, 75}) {
            char other = right.charAt(at) == '0' ? '1' : '0';
            dueArchive(right.substring(0, at) + other + right.substring(at + 1), 9);
        }
        // mode, owner, group, time
        for (int at : new int[] {20, 23, 24, 29, 30, 35, 49, 58}) {
            char other = right.charAt(at) == '0' ? '1' : '0';
            dueArchive(right.substring(0, at) + other + right.substring(at + 1), 0);
            dueArchive(right.substring(0, at) + '8' + right.substring(at + 1), 9);
            dueArchive(right.substring(0, at) + ' ' + right.substring(at + 1), 9);
            dueArchive(right.substring(0, at) + '/' + right.substring(at + 1), 9);
        }
        // the time's first digit: 2 is above 2147483647
        dueArchive(right.substring(0, 48) + '1' + right.substring(49), 0);
        dueArchive(right.substring(0, 48) + '2' + right.substring(49), 9);
        dueArchive(right.substring(0, 77) + '0' + right.substring(78), 9);
        judgePaths();
        judgeKinds();
    }

    private static Model.Node node(int kind, String body) {
        Model.Node node = new Model.Node();
        node.kind = kind;
        node.body = body;
        return node;
    }

    private static String entry(String path, Model.Node node, int number, int links) {
        return Model.header(path, node, number, links) + path + "\0" + node.body;
    }

    private static void judgePaths() {
        String end = Model.archive(new TreeMap<>());
        for (String path : new String[] {"", ".", "..", "/", "/a", "a/", "a\0b", "x/a",
            "p".repeat(61)}) {
            dueArchive(entry(path, node(1, "x"), 1, 1) + end, 9);
        }
        dueArchive(entry("p".repeat(60), node(1, "x"), 1, 1) + end, 0);
        dueArchive(entry("...", node(1, "x"), 1, 1) + end, 0);
        dueArchive(entry("TRAILER!!!", node(1, "x"), 1, 1) + end, 0);
        String a = entry("a", node(0, ""), 1, 1);
        dueArchive(a + entry("b", node(0, ""), 2, 1) + end, 0);
        dueArchive(a + entry("a", node(0, ""), 2, 1) + end, 9);
        dueArchive(a + entry("A", node(0, ""), 2, 1) + end, 9);
        dueArchive(a + entry("\u00ff", node(0, ""), 2, 1) + end, 0);
        dueArchive(a + entry("a/b", node(1, "x"), 2, 1) + end, 0);
        dueArchive(a + entry("a/b/c", node(1, "x"), 2, 1) + end, 9);
        dueArchive(entry("a", node(1, ""), 1, 1) + entry("a/b", node(1, "x"), 2, 1) + end, 9);
        dueArchive(entry("a", node(2, "a"), 1, 1) + entry("a/b", node(1, "x"), 2, 1) + end, 9);
        dueArchive(entry("a/b", node(1, "x"), 1, 1) + entry("a", node(0, ""), 2, 1) + end, 9);
        dueArchive(a + entry("b", node(0, ""), 3, 1) + end, 9);
        dueArchive(a + entry("b", node(0, ""), 1, 1) + end, 9);
        dueArchive(a + entry("b", node(0, ""), 0, 1) + end, 9);
    }

    private static void judgeKinds() {
        String end = Model.archive(new TreeMap<>());
        dueArchive(entry("a", node(0, "x"), 1, 1) + end, 9);
        dueArchive(entry("a", node(0, ""), 1, 1) + end, 0);
        dueArchive(entry("a", node(0, ""), 1, 2) + end, 9);
        dueArchive(entry("a", node(1, ""), 1, 1) + end, 0);
        dueArchive(entry("a", node(2, ""), 1, 1) + end, 9);
        dueArchive(entry("a", node(2, "x"), 1, 1) + end, 0);
        dueArchive(entry("a", node(2, "x\0"), 1, 1) + end, 9);
        dueArchive(entry("a", node(2, "t".repeat(60)), 1, 1) + end, 0);
        dueArchive(entry("a", node(2, "t".repeat(61)), 1, 1) + end, 9);
        String right = entry("a", node(1, ""), 1, 1) + end;
        for (String kind : new String[] {"00", "01", "02", "06", "14", "16", "17", "77"}) {
            dueArchive(right.substring(0, 18) + kind + right.substring(20), 9);
        }
        // sizes that go beyond what there is
        for (String size : new String[] {"00000000001", "00000000127", "00000000130",
            "00000100000", "17777777777", "37777777777", "77777777777"}) {
            dueArchive(right.substring(0, 65) + size + right.substring(76), 9);
        }
        for (String size : new String[] {"000000", "000001", "000003", "000075", "777777"}) {
            dueArchive(right.substring(0, 59) + size + right.substring(65), 9);
        }
    }

    private static void unpackJudgesLinks() {
        String end = Model.archive(new TreeMap<>());
        Model.Node file = node(1, "body");
        String a = entry("a", file, 1, 2);
        dueArchive(a + entry("b", file, 1, 2) + end, 0);
        dueArchive(entry("a", file, 1, 1) + entry("b", file, 2, 1) + end, 0);
        dueArchive(a + end, 9);
        dueArchive(a + entry("b", file, 2, 2) + end, 9);
        dueArchive(entry("a", file, 1, 1) + entry("b", file, 1, 2) + end, 9);
        dueArchive(a + entry("b", file, 1, 1) + end, 9);
        dueArchive(entry("a", file, 2, 2) + entry("b", file, 2, 2) + end, 9);
        dueArchive(entry("a", file, 1, 3) + entry("b", file, 1, 3) + entry("c", file, 2, 3) + end,
                9);
        dueArchive(entry("a", file, 1, 3) + entry("b", file, 1, 3) + entry("c", file, 1, 3) + end,
                0);
        for (int what = 0; what < 6; what++) {
            Model.Node other = node(1, what == 0 ? "bodi" : what == 1 ? "bodys" : "body");
            other.mode = what == 2 ? 1 : 0;
            other.owner = what == 3 ? 1 : 0;
            other.group = what == 4 ? 1 : 0;
            other.time = what == 5 ? 1 : 0;
            dueArchive(a + entry("b", other, 1, 2) + end, 9);
        }
        dueArchive(a + entry("b", node(2, "body"), 1, 2) + end, 9);
        dueArchive(entry("a", node(2, "body"), 1, 2) + entry("b", node(2, "body"), 1, 2) + end, 9);
        dueArchive(entry("a", node(0, ""), 1, 2) + entry("b", node(0, ""), 1, 2) + end, 9);
    }

    private static String manyEntries(int count) {
        StringBuilder row = new StringBuilder();
        for (int i = 0; i < count; i++) {
            row.append(entry("" + (char) ('A' + i), node(0, ""), i + 1, 1));
        }
        return row + Model.archive(new TreeMap<>());
    }

    private static void dueBigFile(int size, int links, int want) {
        TreeMap<String, Model.Node> tree = oneFile("x".repeat(size), 0);
        for (int i = 1; i < links; i++) {
            tree.put("" + (char) ('a' + i), tree.firstEntry().getValue());
        }
        MailChain chain = new MailChain();
        for (Map.Entry<String, Model.Node> entry : tree.entrySet()) {
            String header = Model.header(entry.getKey(), entry.getValue(), 1, links);
            Check.typeRepeated(chain, header + entry.getKey() + "\0", "x", size);
        }
        Check.type(chain, Model.archive(new TreeMap<>()));
        chain.forge(0, 16);
        Check.due("unpack() of " + links + " times " + size, chain.unpack(), want);
    }

    private static void unpackJudgesTheSizeOfTrees() {
        dueUnpacked(manyEntries(40), 0, 0);
        dueUnpacked(manyEntries(41), 0, 9);
        dueBigFile(6000, 1, 0);
        dueBigFile(6001, 1, 9);
        dueBigFile(3000, 2, 0);
        dueBigFile(3001, 2, 9);
        dueBigFile(1500, 4, 0);
        dueBigFile(1501, 4, 9);
    }
}
