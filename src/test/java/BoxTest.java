/** Promises 11 to 14: receive, pass, forge, empty. */
public final class BoxTest {
    private BoxTest() {}

    public static void main(String[] args) {
        receiveTakesParts();
        receiveJudgesLines();
        receiveTellsTheFirst();
        receiveChangesNothingElse();
        passTakesParts();
        passTurnsBits();
        passHasBounds();
        forgeOfText();
        forgeOfCompressed();
        forgeOfArchive();
        forgeHasBounds();
        emptyTakesAll();
        boxOf999();
        Check.end();
    }

    private static int receive(MailChain chain, String row) {
        Check.type(chain, row);
        return chain.receive();
    }

    private static void dueTold(String row, int want) {
        MailChain chain = new MailChain();
        Check.due("receive() of " + row, receive(chain, row), want);
        Check.due("type behind it", chain.type('x', 1), 1);
        Check.due("empty() behind it", chain.empty(), want == 0 ? 1 : 0);
    }

    private static void receiveTakesParts() {
        dueTold(Model.part(1, 1, "a"), 0);
        dueTold(Model.part(1, 1, ""), 0);
        dueTold(Model.part(999, 999, "a"), 0);
        dueTold(Model.part(10, 100, "\n\u0000\u00ff"), 0);
        dueTold("PART 1 OF 1 SIZE 0 CKSUM 4294967295\n", 0);
        MailChain chain = new MailChain();
        Check.due("3 of 3", receive(chain, Model.part(3, 3, "c")), 0);
        Check.due("1 of 3", receive(chain, Model.part(1, 3, "a")), 0);
        Check.due("unpack()", chain.unpack(), 6);
        Check.due("2 of 3", receive(chain, Model.part(2, 3, "")), 0);
        Check.due("unpack()", chain.unpack(), 7);
        Check.due("empty()", chain.empty(), 3);
        long sum = Model.checksum(Check.bytes("x".repeat(7900))) & 4294967295L;
        Check.typeRepeated(chain, "PART 2 OF 2 SIZE 7900 CKSUM " + sum + "\n", "xxxxxxxx", 7900);
        Check.due("a great one", chain.receive(), 0);
    }

    private static void receiveJudgesLines() {
        String sum = " CKSUM " + (Model.checksum(Check.bytes("a")) & 4294967295L) + "\n";
        dueTold("PART 1 OF 1 SIZE 1" + sum + "a", 0);
        String[] wrong = {
            "", "P", "PART", "PART ", "PART 1 OF 1 SIZE 1", "PART 1 OF 1 SIZE 1 CKSUM ",
            "PART 1 OF 1 SIZE 1 CKSUM 5", "PART 1 OF 1 SIZE 1 CKSUM \n",
            "part 1 OF 1 SIZE 1" + sum, "PART  1 OF 1 SIZE 1" + sum, " PART 1 OF 1 SIZE 1" + sum,
            "PART 1 OF 1 SIZE 1 " + sum, "PART 1 OF 1 SIZE 1 CKSUM 5 \n",
            "PART 1 OF 1 SIZE 1 CKSUM 5\r\n", "PART 0 OF 1 SIZE 1" + sum,
            "PART 2 OF 1 SIZE 1" + sum, "PART 0 OF 0 SIZE 1" + sum,
            "PART 1 OF 0 SIZE 1" + sum, "PART 1 OF 1000 SIZE 1" + sum,
            "PART 1000 OF 1000 SIZE 1" + sum, "PART 01 OF 1 SIZE 1" + sum,
            "PART 1 OF 01 SIZE 1" + sum, "PART 1 OF 1 SIZE 01" + sum,
            "PART 1 OF 1 SIZE 00" + sum, "PART 1 OF 1 SIZE 1 CKSUM 00\n",
            "PART 1 OF 1 SIZE 1 CKSUM 01\n", "PART 1 OF 1 SIZE 48001" + sum,
            "PART 1 OF 1 SIZE 1 CKSUM 4294967296\n", "PART 1 OF 1 SIZE 1 CKSUM 9999999999\n",
            "PART 1 OF 1 SIZE 1 CKSUM 42949672950\n",
            "PART 1 OF 1 SIZE 1 CKSUM 18446744073709551617\n",
            "PART 18446744073709551617 OF 18446744073709551617 SIZE 1" + sum,
            "PART 4294967297 OF 4294967297 SIZE 1" + sum,
            "PART 1 OF 1 SIZE 4294967297" + sum, "PART -1 OF 1 SIZE 1" + sum,
            "PART 1 OF -1 SIZE 1" + sum, "PART 1 OF 1 SIZE -1" + sum,
            "PART 1 OF 1 SIZE 1 CKSUM -1\n", "PART +1 OF 1 SIZE 1" + sum,
            "PART : OF 99 SIZE 1" + sum, "PART / OF 99 SIZE 1" + sum,
            "PART 1 OF 1 SIZE 1 CKSUM :\n", "PART x OF 1 SIZE 1" + sum,
            "PART  OF 1 SIZE 1" + sum, "PART 1 OF  SIZE 1" + sum,
            "PART 1 OF 1 SIZE " + sum, "PART 1 Of 1 SIZE 1" + sum, "PART 1 OF 1 SIZe 1" + sum,
            "PART 1 OF 1 SIZE 1 CKSUm 5\n", "PART 1 OF 1 SIZE 1 CKSUM 5", "\n"};
        for (String line : wrong) {
            dueTold(line + (line.endsWith("\n") ? "a" : ""), 1);
        }
        dueTold("PART 1 OF 1 SIZE 48000" + sum + "a", 4);
        dueTold("PART 1 OF 1 SIZE 1 CKSUM 0\na", 5);
        dueTold("PART 1 OF 1 SIZE 1 CKSUM 4294967295\na", 5);
    }

    private static void receiveTellsTheFirst() {
        MailChain chain = new MailChain();
        Check.due("2 of 3", receive(chain, Model.part(2, 3, "b")), 0);
        String sumA = " CKSUM " + (Model.checksum(Check.bytes("a")) & 4294967295L) + "\n";
        Check.due("wrong line", receive(chain, "PART 5 OF 4 SIZE 9 CKSUM 1\na"), 1);
        Check.due("another n", receive(chain, "PART 2 OF 4 SIZE 9 CKSUM 1\na"), 2);
        Check.due("another n alone", receive(chain, Model.part(1, 2, "a")), 2);
        Check.due("came before", receive(chain, "PART 2 OF 3 SIZE 9 CKSUM 1\na"), 3);
        Check.due("came before alone", receive(chain, Model.part(2, 3, "b")), 3);
        Check.due("another size", receive(chain, "PART 1 OF 3 SIZE 2 CKSUM 1\na"), 4);
        Check.due("another size alone", receive(chain, "PART 1 OF 3 SIZE 2" + sumA + "a"), 4);
        Check.due("less than there is", receive(chain, "PART 1 OF 3 SIZE 0" + sumA + "a"), 4);
        Check.due("another sum", receive(chain, "PART 1 OF 3 SIZE 1 CKSUM 1\na"), 5);
        Check.due("another byte", receive(chain, "PART 1 OF 3 SIZE 1" + sumA + "b"), 5);
        Check.due("right", receive(chain, "PART 1 OF 3 SIZE 1" + sumA + "a"), 0);
        Check.due("empty()", chain.empty(), 2);
        Check.due("another n behind empty()", receive(chain, Model.part(1, 2, "a")), 0);
    }

    private static void receiveChangesNothingElse() {
        MailChain chain = new MailChain();
        String text = Model.spell(Model.compress(Model.archive(new Model().mine), 9));
        receive(chain, Model.part(1, 2, text.substring(0, 30)));
        receive(chain, Model.part(1, 2, "other"));
        receive(chain, Model.part(2, 3, "other"));
        receive(chain, "other");
        receive(chain, "PART 2 OF 2 SIZE 1 CKSUM 1\na");
        Check.due("unpack()", chain.unpack(), 6);
        Check.due("2 of 2", receive(chain, Model.part(2, 2, text.substring(30))), 0);
        Check.due("unpack()", chain.unpack(), 0);
    }

    private static MailChain packed() {
        MailChain chain = new MailChain();
        Check.file(chain, "a", "hello, world");
        Check.due("pack(9, 100)", chain.pack(9, 100), 2);
        return chain;
    }

    private static void passTakesParts() {
        MailChain chain = packed();
        chain.type('t', 1);
        Check.due("pass(2, 0, 0)", chain.pass(2, 0, 0), 0);
        Check.due("pass(2, 0, 0)", chain.pass(2, 0, 0), 3);
        Check.due("unpack()", chain.unpack(), 6);
        Check.due("pass(1, 0, 0)", chain.pass(1, 0, 0), 0);
        Check.due("unpack()", chain.unpack(), 0);
        Check.same("path", Check.path(chain, 1, 0), "a");
        Check.same("body", Check.body(chain, 1, 0), "hello, world");
        Check.due("pass leaves the tape", chain.type('t', 1), 2);
        Check.due("pass(1, 0, 0), behind unpack()", chain.pass(1, 0, 0), 0);
        chain.pack(9, 50);
        Check.due("pass(1, 0, 0), another n", chain.pass(1, 0, 0), 2);
    }

    private static void passTurnsBits() {
        MailChain chain = packed();
        int size = chain.part(1, -1);
        Check.due("the word", chain.pass(1, 0, 1), 1);
        Check.due("the line's end", chain.pass(1, size - 101, 255), 1);
        Check.due("the first byte of the piece", chain.pass(1, size - 100, 1), 5);
        Check.due("the last byte", chain.pass(1, size - 1, 128), 5);
        Check.due("part 1 as 3", chain.pass(1, 5, 2), 1);
        Check.due("of 2 as of 3", chain.pass(1, 10, 1), 0);
        Check.due("part 2, of 2", chain.pass(2, 0, 0), 2);
        Check.due("empty()", chain.empty(), 1);
        Check.due("part 2 as 3", chain.pass(2, 5, 1), 1);
        Check.due("the size", chain.pass(2, 17, 1), 4);
        Check.due("the part itself stays", chain.pass(1, 0, 0), 0);
        Check.due("the part itself stays", chain.pass(2, 0, 0), 0);
        Check.due("unpack()", chain.unpack(), 0);
        Check.same("part 1", Check.part(chain, 1), Model.parts(Check.stage(chain, 2), 100).get(0));
    }

    private static void passHasBounds() {
        MailChain fresh = new MailChain();
        Check.noIndex("pass(1, 0, 0), before pack", () -> fresh.pass(1, 0, 0));
        MailChain chain = packed();
        int size = chain.part(2, -1);
        for (int k : new int[] {0, -1, 3, Integer.MIN_VALUE, Integer.MAX_VALUE}) {
            Check.noIndex("pass(" + k + ", 0, 0)", () -> chain.pass(k, 0, 0));
            Check.noIndex("pass(" + k + ", 0, 256)", () -> chain.pass(k, 0, 256));
        }
        for (int at : new int[] {-1, size, Integer.MIN_VALUE, Integer.MAX_VALUE}) {
            Check.noIndex("pass(2, " + at + ", 0)", () -> chain.pass(2, at, 0));
            Check.noIndex("pass(2, " + at + ", -1)", () -> chain.pass(2, at, -1));
        }
        for (int x : new int[] {-1, 256, Integer.MIN_VALUE, Integer.MAX_VALUE}) {
            Check.refused("pass(2, 0, " + x + ")", () -> chain.pass(2, 0, x));
        }
        Check.due("empty()", chain.empty(), 0);
        Check.due("pass(2, size - 1, 0)", chain.pass(2, size - 1, 0), 0);
        Check.due("pass(1, 0, 255)", chain.pass(1, 0, 255), 1);
    }

    private static void forgeOfText() {
        MailChain chain = new MailChain();
        String text = Model.spell(Model.compress(Model.archive(new Model().mine), 9));
        receive(chain, Model.part(2, 3, "x"));
        Check.type(chain, text);
        chain.forge(2, 0);
        Check.due("type behind forge", chain.type('x', 1), 1);
        Check.due("1 of 1 is there", receive(chain, "PART 1 OF 1 SIZE 0 CKSUM 1\n"), 1);
        Check.due("1 of 1 is there", receive(chain, "PART 1 OF 1 SIZE 0 CKSUM 1\n"), 3);
        Check.due("none of 3 is", receive(chain, Model.part(2, 3, "x")), 2);
        Check.due("unpack()", chain.unpack(), 0);
        chain.forge(2, Integer.MIN_VALUE);
        Check.due("unpack() of no text", chain.unpack(), 7);
        Check.due("empty()", chain.empty(), 1);
    }

    private static void forgeOfCompressed() {
        MailChain chain = new MailChain();
        Check.type(chain, Model.compress(Model.archive(new Model().mine), 12));
        chain.forge(1, -1);
        Check.due("unpack()", chain.unpack(), 0);
        chain.forge(1, 0);
        Check.due("unpack() of no compressed bytes", chain.unpack(), 8);
        Check.due("empty()", chain.empty(), 1);
    }

    private static void forgeOfArchive() {
        for (int width = 9; width <= 16; width++) {
            MailChain chain = new MailChain();
            Check.type(chain, Model.archive(new Model().mine));
            chain.forge(0, width);
            Check.due("unpack(), " + width, chain.unpack(), 0);
            Check.due("stage 1", chain.stage(1, 0), -1);
            chain.forge(0, width);
            Check.due("unpack() of no archive", chain.unpack(), 9);
            Check.due("empty()", chain.empty(), 1);
        }
    }

    private static void forgeHasBounds() {
        MailChain chain = new MailChain();
        receive(chain, Model.part(2, 3, "x"));
        for (int what : new int[] {-1, 3, Integer.MIN_VALUE, Integer.MAX_VALUE}) {
            chain.type('x', 1);
            Check.refused("forge(" + what + ", 9)", () -> chain.forge(what, 9));
            Check.due("the tape is empty", chain.checksum(), -1);
        }
        for (int width : new int[] {8, 17, -1, Integer.MIN_VALUE, Integer.MAX_VALUE}) {
            chain.type('x', 1);
            Check.refused("forge(0, " + width + ")", () -> chain.forge(0, width));
            Check.due("the tape is empty", chain.checksum(), -1);
        }
        Check.due("the box stays", receive(chain, Model.part(2, 3, "x")), 3);
        Check.due("empty()", chain.empty(), 1);
    }

    private static void emptyTakesAll() {
        MailChain chain = packed();
        Check.due("empty()", chain.empty(), 0);
        chain.pass(1, 0, 0);
        chain.pass(2, 0, 0);
        chain.type('x', 1);
        Check.due("empty()", chain.empty(), 2);
        Check.due("empty() leaves the tape", chain.type('x', 1), 2);
        Check.due("unpack()", chain.unpack(), 6);
        Check.due("empty() again", chain.empty(), 0);
        Check.due("pass(1, 0, 0)", chain.pass(1, 0, 0), 0);
        Check.due("empty()", chain.empty(), 1);
        Check.due("part(1, 0) stays", chain.part(1, 0), 'P');
    }

    /** The greatest n: some parts come by the tape, in any order. */
    private static void boxOf999() {
        MailChain chain = new MailChain();
        for (int k = 999; k > 950; k--) {
            Check.due(k + " of 999", receive(chain, Model.part(k, 999, "")), 0);
        }
        Check.due("999 again", receive(chain, Model.part(999, 999, "")), 3);
        Check.due("unpack()", chain.unpack(), 6);
        Check.due("empty()", chain.empty(), 49);
    }
}
