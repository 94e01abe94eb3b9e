/** Promises 25 to 30: pairs and boxes. */
public final class BoxTest {
    public static void main(String[] args) {
        promise25MakePair();
        promise26GivePair();
        promise27Seal();
        promise27SealFull();
        promise28GiveBox();
        promise29Unseal();
        promise30PairOf();
        Expect.finish();
    }

    private static void promise25MakePair() {
        CapabilityStore x = new CapabilityStore();
        Expect.fails("no such subject", Expect.INDEX, () -> x.makePair(6));
        Expect.fails("no such subject", Expect.INDEX, () -> x.makePair(-1));
        for (int p = 0; p < 4; p++) {
            int pair = p;
            Expect.is("makePair", p, () -> x.makePair(pair + 2));
            Expect.is("its sealer", 1 << p + 2, () -> x.givePair(pair + 2, pair + 2, pair, false));
            Expect.is("its unsealer", 1 << p + 2, () -> x.givePair(pair + 2, pair + 2, pair, true));
        }
        Expect.fails("the fifth pair", Expect.STATE, () -> x.makePair(0));
        Expect.fails("the fifth pair for no subject", Expect.INDEX, () -> x.makePair(6));
        Expect.is("pairs", 4, () -> x.count(2));
    }

    private static void promise26GivePair() {
        CapabilityStore x = new CapabilityStore();
        x.makePair(0);
        x.makePair(3);
        Expect.is("give the sealer", 1 + 2, () -> x.givePair(0, 1, 0, false));
        Expect.is("give the unsealer", 1 + 32, () -> x.givePair(0, 5, 0, true));
        Expect.is("give on", 1 + 2 + 4, () -> x.givePair(1, 2, 0, false));
        Expect.is("give once more", 1 + 2 + 4, () -> x.givePair(2, 0, 0, false));
        Expect.fails("one with the sealer alone", Expect.DENIED, () -> x.givePair(1, 2, 0, true));
        Expect.same("its report", "5:0", Expect.reported(x));
        Expect.fails("one with the unsealer alone", Expect.DENIED, () -> x.givePair(5, 2, 0, false));
        Expect.fails("one of another pair", Expect.DENIED, () -> x.givePair(0, 2, 1, false));
        Expect.same("its report", "5:1", Expect.reported(x));
        Expect.is("nothing went", 8, () -> x.givePair(3, 3, 1, false));
        int[][] wrong = {{6, 0, 0}, {-1, 0, 0}, {0, 6, 0}, {0, -1, 0}, {0, 0, 2}, {0, 0, -1}, {4, 6, 0}};
        for (int[] w : wrong) {
            Expect.fails("givePair(" + w[0] + ", " + w[1] + ", " + w[2] + ")", Expect.INDEX,
                    () -> x.givePair(w[0], w[1], w[2], true));
        }
        Expect.is("no entries", 0, () -> x.count(6) + x.count(5));
    }

    private static void promise27Seal() {
        CapabilityStore x = new CapabilityStore();
        x.mint(0, 7, 0);
        x.mint(1, 8, 15);
        x.makePair(0);
        x.makePair(1);
        Expect.is("no right is needed", 0, () -> x.seal(0, 0, 0));
        Expect.is("its holder", 1, () -> x.giveBox(0, 0, 0));
        Expect.is("the token is still held", 1, () -> x.held(0));
        Expect.fails("without the sealer", Expect.DENIED, () -> x.seal(0, 1, 0));
        Expect.same("its report", "5:1", Expect.reported(x));
        Expect.fails("without the token", Expect.DENIED, () -> x.seal(0, 0, 1));
        Expect.same("its report", "1:1", Expect.reported(x));
        Expect.fails("without both", Expect.DENIED, () -> x.seal(2, 0, 1));
        Expect.same("the sealer first", "5:0", Expect.reported(x));
        x.givePair(1, 3, 1, true);
        x.give(1, 3, 1);
        Expect.fails("with the unsealer alone", Expect.DENIED, () -> x.seal(3, 1, 1));
        Expect.is("boxes", 1, () -> x.count(3));
        x.givePair(1, 4, 1, false);
        x.give(1, 4, 1);
        x.revoke(1, 1);
        Expect.is("with the sealer alone", 1, () -> x.seal(4, 1, 1));
        int[][] wrong = {{6, 0, 0}, {-1, 0, 0}, {0, 2, 0}, {0, -1, 0}, {0, 0, 2}, {0, 0, -1}, {5, 0, 2}};
        for (int[] w : wrong) {
            Expect.fails("seal(" + w[0] + ", " + w[1] + ", " + w[2] + ")", Expect.INDEX,
                    () -> x.seal(w[0], w[1], w[2]));
        }
    }

    private static void promise27SealFull() {
        CapabilityStore x = new CapabilityStore();
        x.mint(0, 7, 15);
        x.makePair(0);
        for (int b = 0; b < 12; b++) {
            Expect.is("seal", b, () -> x.seal(0, 0, 0));
        }
        Expect.fails("the 13th box", Expect.STATE, () -> x.seal(0, 0, 0));
        Expect.fails("the 13th without the sealer", Expect.DENIED, () -> x.seal(1, 0, 0));
        x.givePair(0, 1, 0, false);
        Expect.fails("the 13th without the token", Expect.DENIED, () -> x.seal(1, 0, 0));
        Expect.same("its report", "1:0", Expect.reported(x));
        Expect.is("boxes", 12, () -> x.count(3));
    }

    private static void promise28GiveBox() {
        CapabilityStore x = new CapabilityStore();
        x.mint(0, 7, 15);
        x.makePair(0);
        x.seal(0, 0, 0);
        Expect.fails("one that is not held", Expect.DENIED, () -> x.giveBox(1, 2, 0));
        Expect.same("its report", "6:0", Expect.reported(x));
        Expect.is("give", 1 + 4, () -> x.giveBox(0, 2, 0));
        Expect.is("give on", 1 + 4 + 32, () -> x.giveBox(2, 5, 0));
        Expect.is("give once more", 1 + 4 + 32, () -> x.giveBox(5, 0, 0));
        int[][] wrong = {{6, 0, 0}, {-1, 0, 0}, {0, 6, 0}, {0, -1, 0}, {0, 0, 1}, {0, 0, -1}, {1, 6, 0}};
        for (int[] w : wrong) {
            Expect.fails("giveBox(" + w[0] + ", " + w[1] + ", " + w[2] + ")", Expect.INDEX,
                    () -> x.giveBox(w[0], w[1], w[2]));
        }
    }

    private static void promise29Unseal() {
        CapabilityStore x = new CapabilityStore();
        x.mint(1, 6, 15);
        x.mint(0, 7, 0);
        x.makePair(1);
        x.makePair(0);
        x.seal(0, 1, 1);
        Expect.fails("without both", Expect.DENIED, () -> x.unseal(3, 0));
        Expect.same("the box first", "6:0", Expect.reported(x));
        x.giveBox(0, 3, 0);
        x.givePair(0, 3, 1, false);
        Expect.fails("without the unsealer", Expect.DENIED, () -> x.unseal(3, 0));
        Expect.same("its report", "5:1", Expect.reported(x));
        Expect.is("nothing came", 0, () -> x.held(3));
        x.givePair(0, 4, 1, true);
        Expect.fails("without the box", Expect.DENIED, () -> x.unseal(4, 0));
        x.givePair(0, 3, 1, true);
        Expect.is("unseal", 1, () -> x.unseal(3, 0));
        Expect.is("held then", 2, () -> x.held(3));
        Expect.is("holders", 9, () -> x.holders(1));
        Expect.is("the box stays", 1, () -> x.unseal(3, 0));
        x.drop(3, 1);
        x.revoke(0, 1);
        Expect.is("a revoked one too", 1, () -> x.unseal(3, 0));
        Expect.fails("no such subject", Expect.INDEX, () -> x.unseal(6, 0));
        Expect.fails("no such subject", Expect.INDEX, () -> x.unseal(-1, 0));
        Expect.fails("no such box", Expect.INDEX, () -> x.unseal(0, 1));
        Expect.fails("no such box", Expect.INDEX, () -> x.unseal(0, -1));
    }

    private static void promise30PairOf() {
        CapabilityStore x = new CapabilityStore();
        x.mint(0, 7, 15);
        x.makePair(0);
        x.makePair(0);
        x.makePair(0);
        x.seal(0, 2, 0);
        x.seal(0, 0, 0);
        x.seal(0, 1, 0);
        Expect.is("pairOf(0)", 2, () -> x.pairOf(0));
        Expect.is("pairOf(1)", 0, () -> x.pairOf(1));
        Expect.is("pairOf(2)", 1, () -> x.pairOf(2));
        Expect.fails("no such box", Expect.INDEX, () -> x.pairOf(3));
        Expect.fails("no such box", Expect.INDEX, () -> x.pairOf(-1));
    }
}
