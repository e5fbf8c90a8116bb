import java.util.List;
import java.util.TreeMap;

/** Promises 7 to 9: pack, part, stage. */
public final class PackTest {
    private PackTest() {}

    public static void main(String[] args) {
        archiveByHand();
        compressedByHand();
        packOfNothing();
        packByModel();
        packOfLinks();
        packHasBounds();
        packRefusesGreatOwners();
        packRefusesTheFirstOwner();
        packReplaces();
        clearCodes();
        partHasBounds();
        stageHasBounds();
        Check.end();
    }

    private static void archiveByHand() {
        MailChain chain = new MailChain();
        Check.directory(chain, "d");
        Check.file(chain, "d/a", "hello");
        Check.symlink(chain, "s", "d/a");
        Check.link(chain, 1, "b");
        String want = "070707000000" + "000001" + "100644" + "000012" + "000024" + "000002"
                + "000000" + "00000000036" + "000002" + "00000000005" + "b\0hello"
                + "070707000000" + "000002" + "040755" + "000001" + "000002" + "000001"
                + "000000" + "00000000003" + "000002" + "00000000000" + "d\0"
                + "070707000000" + "000001" + "100644" + "000012" + "000024" + "000002"
                + "000000" + "00000000036" + "000004" + "00000000005" + "d/a\0hello"
                + "070707000000" + "000004" + "120777" + "000000" + "000000" + "000001"
                + "000000" + "00000000011" + "000002" + "00000000003" + "s\0d/a"
                + "070707000000" + "000000" + "000000" + "000000" + "000000" + "000001"
                + "000000" + "00000000000" + "000013" + "00000000000" + "TRAILER!!!\0";
        Check.same("stage 0", Check.stage(chain, 0), want);
    }

    /** The trailer begins 070707000..: 0, 7, 07, 070, 0, 00, 000, .. are its strings. */
    private static void compressedByHand() {
        MailChain chain = new MailChain();
        chain.pack(16, 4000);
        int[] codes = {48, 55, 257, 259, 48, 261, 262};
        int hold = 0;
        int held = 0;
        int at = 3;
        Check.due("first byte", chain.stage(1, 0), 31);
        Check.due("second byte", chain.stage(1, 1), 157);
        Check.due("third byte", chain.stage(1, 2), 144);
        for (int code : codes) {
            hold |= code << held;
            held += 9;
            while (held >= 8) {
                Check.due("byte " + at, chain.stage(1, at), hold & 255);
                hold >>= 8;
                held -= 8;
                at++;
            }
        }
    }

    private static void packOfNothing() {
        MailChain chain = new MailChain();
        Check.due("pack(16, 4000)", chain.pack(16, 4000), 1);
        String text = Model.spell(Model.compress(Model.archive(new TreeMap<>()), 16));
        Check.same("part 1", Check.part(chain, 1), Model.part(1, 1, text));
        Check.due("stage 2", chain.stage(2, 0), 'b');
    }

    private static void dueStages(MailChain chain, int width, int length) {
        String archive = Check.stage(chain, 0);
        String compressed = Model.compress(archive, width);
        String text = Model.spell(compressed);
        List<String> parts = Model.parts(text, length);
        String call = "pack(" + width + ", " + length + ")";
        Check.due(call, chain.pack(width, length), parts.size());
        Check.same(call + ": stage 1", Check.stage(chain, 1), compressed);
        Check.same(call + ": stage 2", Check.stage(chain, 2), text);
        for (int k = 1; k <= parts.size(); k++) {
            Check.same(call + ": part " + k, Check.part(chain, k), parts.get(k - 1));
        }
    }

    private static MailChain someFiles(int size) {
        MailChain chain = new MailChain();
        Check.directory(chain, "d");
        Check.symlink(chain, "s", "d/a");
        StringBuilder content = new StringBuilder();
        long x = size;
        for (int i = 0; i < size; i++) {
            x = x * 6364136223846793005L + 1442695040888963407L;
            content.append((char) (x >>> 56));
        }
        Check.file(chain, "d/a", content.toString());
        return chain;
    }

    private static void packByModel() {
        for (int size : new int[] {0, 1, 44, 300, 1000, 3000, 6000}) {
            MailChain chain = someFiles(size);
            for (int width = 9; width <= 16; width++) {
                dueStages(chain, width, 4000);
            }
            dueStages(chain, 12, 40);
            dueStages(chain, 12, 41);
        }
        MailChain chain = new MailChain();
        Check.typeRepeated(chain, "a", "\u0000", 6000);
        chain.add(1, 1, 0, 0, 0, 0);
        for (int width = 9; width <= 16; width++) {
            dueStages(chain, width, 333);
        }
    }

    private static void packOfLinks() {
        MailChain chain = new MailChain();
        Check.file(chain, "m", "one");
        Check.file(chain, "n", "two");
        Check.link(chain, 0, "z");
        Check.link(chain, 1, "b");
        Check.link(chain, 1, "c");
        String archive = Check.stage(chain, 0);
        String[] numbers = {"000001", "000002", "000002", "000001", "000002"};
        String[] links = {"000002", "000003", "000003", "000002", "000003"};
        for (int i = 0; i < 5; i++) {
            int at = i * (76 + 2 + 3);
            Check.same("number of " + i, archive.substring(at + 12, at + 18), numbers[i]);
            Check.same("links of " + i, archive.substring(at + 36, at + 42), links[i]);
        }
        dueStages(chain, 9, 40);
    }

    private static void packHasBounds() {
        MailChain chain = new MailChain();
        for (int width : new int[] {8, 17, 0, -1, Integer.MIN_VALUE, Integer.MAX_VALUE}) {
            Check.refused("pack(" + width + ", 40)", () -> chain.pack(width, 40));
        }
        for (int length : new int[] {39, 4001, 0, -40, Integer.MIN_VALUE, Integer.MAX_VALUE}) {
            Check.refused("pack(9, " + length + ")", () -> chain.pack(9, length));
        }
        Check.due("no stage then", chain.stage(1, 0), -1);
        Check.noIndex("no part then", () -> chain.part(1, 0));
        Check.due("pack(9, 40)", chain.pack(9, 40), chain.pack(16, 40));
        Check.due("pack(16, 4000)", chain.pack(16, 4000), 1);
    }

    private static void packRefusesGreatOwners() {
        for (int which = 0; which < 2; which++) {
            MailChain chain = new MailChain();
            Check.file(chain, "a", "hello");
            chain.type('b', 1);
            chain.add(0, 1, 0, 262143, 262143, 0);
            Check.due("pack, 262143", chain.pack(9, 100), chain.pack(9, 100));
            String part = Check.part(chain, 1);
            String compressed = Check.stage(chain, 1);
            String text = Check.stage(chain, 2);
            chain.type('c', 1);
            chain.add(0, 1, 0, which == 0 ? 262144 : 0, which == 1 ? 262144 : 0, 0);
            Check.due("pack, 262144", chain.pack(12, 200), -1);
            Check.due("stage 0", chain.stage(0, 0), -1);
            Check.same("part 1 stays", Check.part(chain, 1), part);
            Check.same("stage 1 stays", Check.stage(chain, 1), compressed);
            Check.same("stage 2 stays", Check.stage(chain, 2), text);
            Check.refused("pack(8, 40)", () -> chain.pack(8, 40));
            chain.clear();
            Check.due("stage 0 is back", chain.stage(0, 0), '0');
        }
    }

    private static void packRefusesTheFirstOwner() {
        for (String path : new String[] {"a", "m", "z"}) {
            MailChain chain = new MailChain();
            Check.file(chain, "b", "x");
            Check.file(chain, "n", "x");
            Check.type(chain, path);
            chain.add(1, 1, 0, Integer.MAX_VALUE, 0, 0);
            Check.due("pack, owner of " + path, chain.pack(9, 40), -1);
            Check.due("stage 1", chain.stage(1, 0), -1);
        }
    }

    private static void packReplaces() {
        MailChain chain = someFiles(300);
        int many = chain.pack(9, 40);
        Check.due("the last part", chain.part(many, -1) > 0 ? 1 : 0, 1);
        Check.noIndex("one more", () -> chain.part(many + 1, -1));
        chain.clear();
        int few = chain.pack(10, 4000);
        Check.due("few", few, 1);
        Check.noIndex("an old part", () -> chain.part(2, -1));
        Check.due("width", chain.stage(1, 2), 138);
    }

    /** With W = 9 the table is full behind 255 codes: CLEAR comes only if a byte is left then. */
    private static void clearCodes() {
        for (int width = 9; width <= 11; width++) {
            int full = (1 << width) - 257;
            for (int codes = full - 3; codes < full + 20; codes++) {
                String row = rowOfCodes(codes);
                MailChain chain = new MailChain();
                Check.type(chain, Model.compress(row, width));
                chain.forge(1, 0);
                Check.due("unpack() of " + codes + " codes", chain.unpack(), 9);
                Check.type(chain, row);
                chain.forge(0, width);
                Check.due("unpack() of " + codes + " bytes", chain.unpack(), 9);
            }
        }
        for (int size = 60; size < 600; size += 7) {
            MailChain chain = someFiles(size);
            chain.pack(9, 4000);
            Check.same("stage 1 of " + size, Check.stage(chain, 1),
                    Model.compress(Check.stage(chain, 0), 9));
        }
    }

    /** No two bytes stand side by side twice, so that each byte has a code of its own. */
    private static String rowOfCodes(int codes) {
        StringBuilder row = new StringBuilder();
        int value = 0;
        for (int i = 0; i < codes; i++) {
            row.append((char) value);
            value = value + 2 * (i / 256) + 1 & 255;
        }
        return row.toString();
    }

    private static void partHasBounds() {
        MailChain chain = new MailChain();
        Check.noIndex("part(1, -1), before pack", () -> chain.part(1, -1));
        int parts = chain.pack(9, 40);
        int size = chain.part(parts, -1);
        for (int k : new int[] {0, -1, parts + 1, Integer.MIN_VALUE, Integer.MAX_VALUE}) {
            Check.noIndex("part(" + k + ", -1)", () -> chain.part(k, -1));
            Check.noIndex("part(" + k + ", 0)", () -> chain.part(k, 0));
        }
        for (int i : new int[] {-2, size, Integer.MIN_VALUE, Integer.MAX_VALUE}) {
            Check.noIndex("part(n, " + i + ")", () -> chain.part(parts, i));
        }
        Check.due("the last byte", chain.part(parts, size - 1), '\n');
        Check.due("the first byte", chain.part(1, 0), 'P');
    }

    private static void stageHasBounds() {
        MailChain chain = new MailChain();
        for (int what : new int[] {-1, 3, Integer.MIN_VALUE, Integer.MAX_VALUE}) {
            Check.refused("stage(" + what + ", 0)", () -> chain.stage(what, 0));
            Check.refused("stage(" + what + ", -1)", () -> chain.stage(what, -1));
        }
        Check.due("stage 1 before pack", chain.stage(1, 0), -1);
        Check.due("stage 2 before pack", chain.stage(2, 0), -1);
        chain.pack(9, 40);
        for (int what = 0; what < 3; what++) {
            int size = Check.stage(chain, what).length();
            for (int i : new int[] {-1, size, Integer.MIN_VALUE, Integer.MAX_VALUE}) {
                Check.due("stage(" + what + ", " + i + ")", chain.stage(what, i), -1);
            }
        }
        Check.file(chain, "a", "x");
        Check.due("stage 0 is of now", chain.stage(0, 87) >= 0 ? 1 : 0, 1);
        Check.due("stage 1 is of pack", Check.stage(chain, 1).equals(
                Model.compress(Model.archive(new TreeMap<>()), 9)) ? 1 : 0, 1);
        Check.link(chain, 0, "b");
        Check.same("links of a now", Check.stage(chain, 0).substring(36, 42), "000002");
        chain.clear();
        Check.due("stage 0 behind clear", chain.stage(0, 87), -1);
    }
}
