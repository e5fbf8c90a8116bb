/** Promises 1 to 3 and 10: a new object, type, again, checksum. */
public final class TapeTest {
    private TapeTest() {}

    public static void main(String[] args) {
        newObjectIsEmpty();
        typeTakesLowestBytesFirst();
        typeHasBounds();
        againRepeats();
        againHasBounds();
        checksumOfKnownRows();
        Check.end();
    }

    private static void newObjectIsEmpty() {
        MailChain chain = new MailChain();
        Check.due("again(0)", chain.again(0), 0);
        Check.due("about(0, 0, 0)", chain.about(0, 0, 0), 0);
        Check.due("about(1, 0, 0)", chain.about(1, 0, 0), 0);
        Check.noIndex("part(1, -1)", () -> chain.part(1, -1));
        Check.due("stage(0, 0)", chain.stage(0, 0), '0');
        Check.due("stage(0, 86)", chain.stage(0, 86), 0);
        Check.due("stage(0, 87)", chain.stage(0, 87), -1);
        Check.due("stage(1, 0)", chain.stage(1, 0), -1);
        Check.due("stage(2, 0)", chain.stage(2, 0), -1);
        Check.due("unpack()", chain.unpack(), 6);
        Check.due("empty()", chain.empty(), 0);
        Check.due("clear()", chain.clear(), 0);
        Check.due("checksum()", chain.checksum(), -1);
    }

    private static void typeTakesLowestBytesFirst() {
        MailChain chain = new MailChain();
        Check.due("type(.., 3)", chain.type(0x1122334455636261L, 3), 3);
        Check.due("type(.., 8)", chain.type(0x8070605040302010L, 8), 11);
        Check.due("add", chain.add(1, 3, 0, 0, 0, 0), 1);
        Check.same("path", Check.path(chain, 0, 0), "abc");
        for (int i = 0; i < 8; i++) {
            Check.due("content byte " + i, chain.byteOf(0, 0, 3 + i), 16 * (i + 1));
        }
    }

    private static void typeHasBounds() {
        MailChain chain = new MailChain();
        Check.refused("type(1, 0)", () -> chain.type(1, 0));
        Check.refused("type(1, 9)", () -> chain.type(1, 9));
        Check.refused("type(1, -1)", () -> chain.type(1, -1));
        Check.refused("type(1, MIN)", () -> chain.type(1, Integer.MIN_VALUE));
        Check.typeRepeated(chain, "", "abcdefgh", 7992);
        Check.due("type to the end", chain.type(0, 7), 7999);
        Check.tooMuch("type(0, 2)", () -> chain.type(0, 2));
        Check.refused("type(0, 9), full", () -> chain.type(0, 9));
        Check.due("type(0, 1)", chain.type(0, 1), 8000);
        Check.tooMuch("type(0, 1)", () -> chain.type(0, 1));
        Check.due("again(0), full", chain.again(0), 8000);
        chain.checksum();
        Check.due("type behind checksum", chain.type(0, 1), 1);
    }

    private static void againRepeats() {
        MailChain chain = new MailChain();
        Check.type(chain, "abcde");
        Check.due("again(2)", chain.again(2), 7);
        Check.due("again(7)", chain.again(7), 14);
        Check.due("again(0)", chain.again(0), 14);
        chain.add(1, 14, 0, 0, 0, 0);
        Check.same("path", Check.path(chain, 0, 0), "abcdedeabcdede");
    }

    private static void againHasBounds() {
        MailChain chain = new MailChain();
        Check.refused("again(1), empty", () -> chain.again(1));
        Check.type(chain, "abc");
        Check.refused("again(4)", () -> chain.again(4));
        Check.refused("again(-1)", () -> chain.again(-1));
        Check.refused("again(MAX)", () -> chain.again(Integer.MAX_VALUE));
        Check.refused("again(MIN)", () -> chain.again(Integer.MIN_VALUE));
        Check.due("again(3)", chain.again(3), 6);
        chain.checksum();
        Check.typeRepeated(chain, "", "abcdefgh", 4001);
        Check.tooMuch("again(4000)", () -> chain.again(4000));
        Check.due("again(3999)", chain.again(3999), 8000);
        Check.tooMuch("again(1)", () -> chain.again(1));
        Check.refused("again(8001)", () -> chain.again(8001));
        Check.due("again(0)", chain.again(0), 8000);
    }

    private static void checksumOfKnownRows() {
        // as the cksum of POSIX tells them
        dueChecksum("", 4294967295L);
        dueChecksum("a", 1220704766L);
        dueChecksum("abc", 1219131554L);
        dueChecksum("123456789", 930766865L);
        for (int length : new int[] {1, 3, 255, 256, 257, 4096, 7999, 8000}) {
            MailChain chain = new MailChain();
            Check.typeRepeated(chain, "", "mail\n~\u00ff\u0000", length);
            byte[] row = Check.bytes("mail\n~\u00ff\u0000".repeat(1000).substring(0, length));
            Check.due("checksum of " + length, chain.checksum(), Model.checksum(row));
            Check.due("checksum behind it", chain.checksum(), -1);
        }
    }

    private static void dueChecksum(String row, long want) {
        MailChain chain = new MailChain();
        Check.type(chain, row);
        Check.due("checksum of " + row, chain.checksum() & 4294967295L, want);
        Check.due("checksum behind it", chain.checksum(), -1);
    }
}
