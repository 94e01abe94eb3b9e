/** Promises 1, 2, 6 to 10 and 12 to 16: tokens. */
public final class TokenTest {
    public static void main(String[] args) {
        promise1NewObject();
        promise2Mint();
        promise2MintFull();
        promise6Give();
        promise6GiveDenied();
        promise7Drop();
        promise8Revoke();
        promise8RevokeAgain();
        promise9Token();
        promise10Caveat();
        promise12LeftNothingNarrowed();
        promise12LeftOfChain();
        promise12LeftUses();
        promise13And14Holding();
        promise15Below();
        promise16Ranked();
        Expect.finish();
    }

    private static void promise1NewObject() {
        CapabilityStore x = new CapabilityStore();
        for (int what = 0; what <= 8; what++) {
            int number = what;
            Expect.is("count of a new object, " + what, 0, () -> x.count(number));
        }
        for (int o = 0; o < 12; o++) {
            int object = o;
            for (int what = 0; what <= 2; what++) {
                int number = what;
                Expect.is("object of a new object", 0, () -> x.object(object, number));
            }
        }
        for (int s = 0; s < 6; s++) {
            int subject = s;
            Expect.is("held of a new object", 0, () -> x.held(subject));
            Expect.is("coming of a new object", 0, () -> x.coming(subject));
            Expect.is("reached of a new object", 0, () -> x.reached(subject));
            Expect.is("logged of a new object", 0, () -> x.logged(subject, true) + x.logged(subject, false));
        }
        Expect.is("errorPosition of a new object", -1, x::errorPosition);
        Expect.is("levels of a new object", 0, x::levels);
        Expect.fails("report of a new object", Expect.ELEMENT, () -> x.report(0, 0));
        Expect.fails("log of a new object", Expect.ELEMENT, () -> x.log(0));
        Expect.fails("expired of a new object", Expect.ELEMENT, () -> x.expired(0));
        Expect.fails("ranked of a new object", Expect.ELEMENT, () -> x.ranked(0));
        Expect.fails("restore of a new object", Expect.STATE, x::restore);
        Expect.fails("token of a new object", Expect.INDEX, () -> x.token(0, 0));
        Expect.fails("pairOf of a new object", Expect.INDEX, () -> x.pairOf(0));
        Expect.fails("derive with an empty store", Expect.INDEX, () -> x.derive(0, 0));
    }

    private static void promise2Mint() {
        CapabilityStore x = new CapabilityStore();
        Expect.is("first mint", 0, () -> x.mint(0, 11, 0));
        Expect.is("second mint", 1, () -> x.mint(5, 0, 15));
        Expect.is("its object", 11, () -> x.token(0, 0));
        Expect.is("its parent", -1, () -> x.token(0, 1));
        Expect.is("its caveats", 1, () -> x.token(0, 2));
        Expect.is("its uses", 0, () -> x.token(0, 3));
        Expect.is("its chain", 1, () -> x.token(0, 4));
        Expect.same("its text", "r0", Expect.described(x, 0));
        Expect.same("the other text", "r15", Expect.described(x, 1));
        Expect.is("its holders", 1, () -> x.holders(0));
        Expect.is("the other's holders", 32, () -> x.holders(1));
        int[][] places = {{6, 0}, {-1, 0}, {0, 12}, {0, -1}, {Integer.MAX_VALUE, 0}, {0, Integer.MIN_VALUE}};
        for (int[] place : places) {
            Expect.fails("mint(" + place[0] + ", " + place[1] + ", 1)", Expect.INDEX,
                    () -> x.mint(place[0], place[1], 1));
            Expect.fails("mint there with wrong rights", Expect.INDEX, () -> x.mint(place[0], place[1], 16));
        }
        Expect.fails("mint with rights 16", Expect.ARGUMENT, () -> x.mint(0, 0, 16));
        Expect.fails("mint with rights -1", Expect.ARGUMENT, () -> x.mint(0, 0, -1));
    }

    private static void promise2MintFull() {
        CapabilityStore x = new CapabilityStore();
        for (int t = 0; t < 28; t++) {
            int number = t;
            Expect.is("mint " + t, t, () -> x.mint(number % 6, number % 12, number % 16));
        }
        Expect.fails("the 29th mint", Expect.STATE, () -> x.mint(0, 0, 0));
        Expect.fails("the 29th mint with wrong rights", Expect.ARGUMENT, () -> x.mint(0, 0, 16));
        Expect.fails("the 29th mint for no subject", Expect.INDEX, () -> x.mint(6, 0, 0));
        Expect.is("tokens", 28, () -> x.count(0));
        Expect.is("the last one's holders", 1 << 27 % 6, () -> x.holders(27));
        Expect.is("below the last one", 1 << 27, () -> x.below(27));
    }

    private static void promise6Give() {
        CapabilityStore x = new CapabilityStore();
        x.mint(0, 3, 4);
        Expect.is("give", 2, () -> x.give(0, 1, 0));
        Expect.is("give to one that holds it", 2, () -> x.give(0, 1, 0));
        Expect.is("give to itself", 2, () -> x.give(1, 1, 0));
        Expect.is("give on", 3, () -> x.give(1, 5, 0));
        Expect.is("holders", 1 + 2 + 32, () -> x.holders(0));
        Expect.is("no entry in the log", 0, () -> x.count(6));
        Expect.is("no allowed request", 0, () -> x.count(4));
        Expect.is("no use", 0, () -> x.token(0, 3));
        int[][] wrong = {{6, 0, 0}, {-1, 0, 0}, {0, 6, 0}, {0, -1, 0}, {0, 0, 1}, {0, 0, -1}, {2, 6, 0}};
        for (int[] w : wrong) {
            Expect.fails("give(" + w[0] + ", " + w[1] + ", " + w[2] + ")", Expect.INDEX,
                    () -> x.give(w[0], w[1], w[2]));
        }
    }

    private static void promise6GiveDenied() {
        CapabilityStore x = new CapabilityStore();
        x.mint(0, 3, 11);
        x.mint(0, 3, 15);
        Expect.fails("give of one not held", Expect.DENIED, () -> x.give(2, 0, 1));
        Expect.same("its report", "1:1", Expect.reported(x));
        Expect.fails("give without grant", Expect.DENIED, () -> x.give(0, 1, 0));
        Expect.same("its report", "4:0 10:0 20:4", Expect.reported(x));
        Expect.is("holders then", 1, () -> x.holders(0));
        Expect.derive(x, 0, 1, "a1-9");
        Expect.fails("give asks with the argument 0", Expect.DENIED, () -> x.give(0, 1, 2));
        Expect.same("its report", "4:2 14:0 20:0", Expect.reported(x));
        Expect.derive(x, 0, 1, "a0-0");
        Expect.is("give with the argument 0 in the range", 2, () -> x.give(0, 1, 3));
        x.revoke(0, 1);
        Expect.fails("give of one that is revoked", Expect.DENIED, () -> x.give(0, 2, 3));
        Expect.same("its report", "2:1 3:0", Expect.reported(x));
        Expect.is("denied requests", 0, () -> x.count(5));
        Expect.is("entries", 0, () -> x.count(6));
    }

    private static void promise7Drop() {
        CapabilityStore x = new CapabilityStore();
        x.mint(0, 3, 4);
        x.give(0, 1, 0);
        x.give(0, 2, 0);
        Expect.is("drop", 2, () -> x.drop(1, 0));
        Expect.is("holders", 5, () -> x.holders(0));
        Expect.fails("drop again", Expect.ELEMENT, () -> x.drop(1, 0));
        Expect.is("drop", 1, () -> x.drop(0, 0));
        Expect.is("drop", 0, () -> x.drop(2, 0));
        Expect.is("a token that nobody holds stays", 1, () -> x.count(0));
        Expect.is("its object", 3, () -> x.token(0, 0));
        Expect.is("the next number", 1, () -> x.mint(0, 0, 0));
        Expect.fails("drop by no subject", Expect.INDEX, () -> x.drop(6, 0));
        Expect.fails("drop by no subject", Expect.INDEX, () -> x.drop(-1, 0));
        Expect.fails("drop of no token", Expect.INDEX, () -> x.drop(0, 2));
        Expect.fails("drop of no token", Expect.INDEX, () -> x.drop(0, -1));
        Expect.same("no report", "", Expect.reported(x));
    }

    /** 0 - 1 - 2 - 3, and 4 below 1. */
    private static CapabilityStore tree() {
        CapabilityStore x = new CapabilityStore();
        x.mint(0, 7, 15);
        Expect.derive(x, 0, 0, "r15");
        Expect.derive(x, 0, 1, "r15");
        Expect.derive(x, 0, 2, "r15");
        Expect.derive(x, 0, 1, "r15");
        return x;
    }

    private static void promise8Revoke() {
        CapabilityStore x = tree();
        x.give(0, 1, 3);
        x.give(0, 2, 1);
        Expect.fails("revoke by no subject", Expect.INDEX, () -> x.revoke(6, 0));
        Expect.fails("revoke by no subject", Expect.INDEX, () -> x.revoke(-1, 0));
        Expect.fails("revoke of no token", Expect.INDEX, () -> x.revoke(0, 5));
        Expect.fails("revoke of no token", Expect.INDEX, () -> x.revoke(0, -1));
        Expect.fails("revoke by one that holds a lower one only", Expect.DENIED, () -> x.revoke(1, 2));
        Expect.same("its report", "1:2", Expect.reported(x));
        Expect.is("revoke by one that holds it", 1, () -> x.revoke(1, 3));
        Expect.is("revoke by one that holds one above", 1, () -> x.revoke(2, 2));
        Expect.is("the rest of the tree", 3, () -> x.revoke(0, 0));
        for (int t = 0; t < 5; t++) {
            int token = t;
            Expect.is("revoked in the chain of " + t, 1, () -> x.token(token, 5));
        }
        Expect.is("living tokens", 0, () -> x.count(8));
        Expect.fails("asking", Expect.DENIED, () -> x.request(1, 3, 1, 0));
        Expect.same("the root counts first", "2:0 3:0", Expect.reported(x));
    }

    private static void promise8RevokeAgain() {
        CapabilityStore x = tree();
        x.give(0, 4, 1);
        x.give(0, 1, 3);
        Expect.is("revoke", 4, () -> x.revoke(4, 1));
        Expect.is("revoke again", 0, () -> x.revoke(0, 1));
        Expect.is("revoke below", 0, () -> x.revoke(1, 3));
        Expect.is("living tokens", 1, () -> x.count(8));
        Expect.fails("asking", Expect.DENIED, () -> x.request(0, 1, 1, 0));
        Expect.same("the first one revoked it", "2:1 3:4", Expect.reported(x));
        Expect.fails("revoke again by a stranger", Expect.DENIED, () -> x.revoke(5, 1));
        Expect.same("its report", "1:1", Expect.reported(x));
        x.drop(0, 0);
        Expect.fails("nobody holds the root now", Expect.DENIED, () -> x.revoke(0, 0));
        Expect.is("holding is looked at, not being revoked", 0, () -> x.revoke(0, 2));
        Expect.is("a derived one of a revoked one", 5, () -> Expect.derive(x, 0, 4, "r1"));
        Expect.is("it is revoked above", 1, () -> x.token(5, 5));
        Expect.is("revoking it ends nothing", 0, () -> x.revoke(0, 5));
    }

    private static void promise9Token() {
        CapabilityStore x = tree();
        int[][] due = {
            {7, -1, 1, 1, 1, 0, 1}, {7, 0, 1, 1, 2, 0, 2}, {7, 1, 1, 1, 3, 1, 1}, {7, 2, 1, 1, 4, 1, 0},
            {7, 1, 1, 0, 2 + 1, 0, 0},
        };
        x.request(0, 3, 1, 0);
        x.revoke(0, 2);
        for (int t = 0; t < 5; t++) {
            for (int what = 0; what <= 6; what++) {
                int token = t;
                int number = what;
                Expect.is("token(" + t + ", " + what + ")", due[t][what], () -> x.token(token, number));
            }
        }
        x.mint(1, 2, 0);
        Expect.derive(x, 1, 5, "r1;t2;s3;n4");
        Expect.is("four caveats", 4, () -> x.token(6, 2));
        Expect.is("its object", 2, () -> x.token(6, 0));
        Expect.fails("no such token", Expect.INDEX, () -> x.token(7, 0));
        Expect.fails("no such token, nor what", Expect.INDEX, () -> x.token(-1, 7));
        Expect.fails("no such what", Expect.ARGUMENT, () -> x.token(0, 7));
        Expect.fails("no such what", Expect.ARGUMENT, () -> x.token(0, -1));
    }

    private static void promise10Caveat() {
        CapabilityStore x = new CapabilityStore();
        x.mint(0, 0, 9);
        Expect.derive(x, 0, 0, "s5;n0;a7-800;t12");
        int[][] due = {{2, 5, -1}, {3, 0, -1}, {4, 7, 800}, {1, 12, -1}};
        for (int c = 0; c < 4; c++) {
            for (int what = 0; what <= 2; what++) {
                int caveat = c;
                int number = what;
                Expect.is("caveat(1, " + c + ", " + what + ")", due[c][what], () -> x.caveat(1, caveat, number));
            }
        }
        Expect.is("a root's kind", 0, () -> x.caveat(0, 0, 0));
        Expect.is("a root's rights", 9, () -> x.caveat(0, 0, 1));
        Expect.is("a root's end", -1, () -> x.caveat(0, 0, 2));
        Expect.fails("no such token", Expect.INDEX, () -> x.caveat(2, 0, 0));
        Expect.fails("no such token", Expect.INDEX, () -> x.caveat(-1, 0, 3));
        Expect.fails("no such caveat", Expect.INDEX, () -> x.caveat(0, 1, 0));
        Expect.fails("no such caveat, nor what", Expect.INDEX, () -> x.caveat(0, 1, 3));
        Expect.fails("no such caveat", Expect.INDEX, () -> x.caveat(1, 4, 0));
        Expect.fails("no such caveat", Expect.INDEX, () -> x.caveat(1, -1, 0));
        Expect.fails("no such what", Expect.ARGUMENT, () -> x.caveat(1, 0, 3));
        Expect.fails("no such what", Expect.ARGUMENT, () -> x.caveat(1, 0, -1));
    }

    private static void left(CapabilityStore x, int token, int... due) {
        for (int what = 0; what <= 5; what++) {
            int number = what;
            Expect.is("left(" + token + ", " + what + ")", due[what], () -> x.left(token, number));
        }
    }

    private static void promise12LeftNothingNarrowed() {
        CapabilityStore x = new CapabilityStore();
        x.mint(0, 0, 13);
        left(x, 0, 13, -1, 63, -1, 0, 999);
        Expect.fails("no such token", Expect.INDEX, () -> x.left(1, 0));
        Expect.fails("no such token, nor what", Expect.INDEX, () -> x.left(-1, 6));
        Expect.fails("no such what", Expect.ARGUMENT, () -> x.left(0, 6));
        Expect.fails("no such what", Expect.ARGUMENT, () -> x.left(0, -1));
    }

    private static void promise12LeftOfChain() {
        CapabilityStore x = new CapabilityStore();
        x.mint(0, 0, 13);
        Expect.derive(x, 0, 0, "t20;t30;r7;s3");
        left(x, 1, 5, 20, 8, -1, 0, 999);
        Expect.derive(x, 0, 1, "t25;a10-50;a40-90");
        left(x, 2, 5, 20, 8, -1, 40, 50);
        Expect.derive(x, 0, 2, "t0;s4;a50-999;r2");
        left(x, 3, 0, 0, 0, -1, 50, 50);
        Expect.derive(x, 0, 3, "a0-49");
        left(x, 4, 0, 0, 0, -1, -1, -1);
        Expect.derive(x, 0, 2, "a0-39");
        left(x, 5, 5, 20, 8, -1, -1, -1);
        left(x, 0, 13, -1, 63, -1, 0, 999);
    }

    private static void promise12LeftUses() {
        CapabilityStore x = new CapabilityStore();
        x.mint(0, 0, 15);
        Expect.derive(x, 0, 0, "n3;n5");
        Expect.derive(x, 0, 1, "n2");
        left(x, 2, 15, -1, 63, 2, 0, 999);
        x.request(0, 1, 1, 0);
        Expect.is("uses of the one above", 2, () -> x.left(1, 3));
        Expect.is("the lower one", 2, () -> x.left(2, 3));
        x.request(0, 2, 1, 0);
        Expect.is("each by its own uses", 1, () -> x.left(2, 3));
        x.request(0, 1, 1, 0);
        Expect.is("none left", 0, () -> x.left(2, 3));
        Expect.is("none left", 0, () -> x.left(1, 3));
        Expect.derive(x, 0, 0, "n0");
        Expect.is("n0", 0, () -> x.left(3, 3));
    }

    private static void promise13And14Holding() {
        CapabilityStore x = tree();
        x.give(0, 5, 2);
        x.drop(0, 1);
        Expect.is("holders", 33, () -> x.holders(2));
        Expect.is("holders of one dropped", 0, () -> x.holders(1));
        Expect.is("held by 0", 1 + 4 + 8 + 16, () -> x.held(0));
        Expect.is("held by 5", 4, () -> x.held(5));
        Expect.is("held by 1", 0, () -> x.held(1));
        x.revoke(0, 0);
        Expect.is("revoked ones are held", 1 + 4 + 8 + 16, () -> x.held(0));
        Expect.fails("no such token", Expect.INDEX, () -> x.holders(5));
        Expect.fails("no such token", Expect.INDEX, () -> x.holders(-1));
        Expect.fails("no such subject", Expect.INDEX, () -> x.held(6));
        Expect.fails("no such subject", Expect.INDEX, () -> x.held(-1));
    }

    private static void promise15Below() {
        CapabilityStore x = tree();
        x.mint(0, 7, 1);
        int[] due = {31, 30, 12, 8, 16, 32};
        for (int t = 0; t < due.length; t++) {
            int token = t;
            Expect.is("below(" + t + ")", due[t], () -> x.below(token));
        }
        Expect.fails("no such token", Expect.INDEX, () -> x.below(6));
        Expect.fails("no such token", Expect.INDEX, () -> x.below(-1));
    }

    private static void promise16Ranked() {
        CapabilityStore x = tree();
        x.mint(0, 11, 1);
        x.mint(0, 0, 1);
        x.mint(0, 7, 1);
        x.mint(0, 0, 1);
        int[] due = {6, 8, 3, 2, 4, 1, 0, 7, 5};
        for (int r = 0; r < due.length; r++) {
            int rank = r;
            Expect.is("ranked(" + r + ")", due[r], () -> x.ranked(rank));
        }
        Expect.fails("no such rank", Expect.ELEMENT, () -> x.ranked(9));
        Expect.fails("no such rank", Expect.ELEMENT, () -> x.ranked(-1));
        Expect.fails("no such rank", Expect.ELEMENT, () -> x.ranked(Integer.MIN_VALUE));
    }
}
