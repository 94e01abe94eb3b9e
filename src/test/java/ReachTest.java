/** Promises 31 to 35: reachability. */
public final class ReachTest {
    public static void main(String[] args) {
        promise31Rights();
        promise32Coming();
        promise32ComingNeedsRights();
        promise32ComingFromBoxes();
        promise33Round();
        promise34Reached();
        promise35IsConfined();
        Expect.finish();
    }

    private static void promise31Rights() {
        CapabilityStore x = new CapabilityStore();
        x.mint(0, 7, 13);
        Expect.derive(x, 0, 0, "r7");
        Expect.derive(x, 0, 0, "t2");
        Expect.derive(x, 0, 0, "s3");
        Expect.derive(x, 0, 0, "n1");
        Expect.derive(x, 0, 0, "a10-20;a30-40");
        Expect.derive(x, 0, 0, "a0-20;a20-999");
        Expect.is("a root", 13, () -> x.rights(0, 0));
        Expect.is("one that does not hold it", 13, () -> x.rights(5, 0));
        Expect.is("fewer rights", 5, () -> x.rights(0, 1));
        Expect.is("in time", 13, () -> x.rights(0, 2));
        Expect.is("for another subject", 0, () -> x.rights(0, 3));
        Expect.is("for the subject", 13, () -> x.rights(3, 3));
        Expect.is("a use is left", 13, () -> x.rights(0, 4));
        Expect.is("no argument", 0, () -> x.rights(0, 5));
        Expect.is("one argument", 13, () -> x.rights(0, 6));
        x.pass(2);
        x.request(0, 4, 1, 0);
        Expect.is("out of time", 0, () -> x.rights(0, 2));
        Expect.is("no use is left", 0, () -> x.rights(0, 4));
        x.revoke(0, 6);
        Expect.is("revoked", 0, () -> x.rights(0, 6));
        x.revoke(0, 0);
        Expect.is("revoked above", 0, () -> x.rights(0, 1));
        Expect.fails("no such subject", Expect.INDEX, () -> x.rights(6, 0));
        Expect.fails("no such subject", Expect.INDEX, () -> x.rights(-1, 0));
        Expect.fails("no such token", Expect.INDEX, () -> x.rights(0, 7));
        Expect.fails("no such token", Expect.INDEX, () -> x.rights(0, -1));
    }

    private static void coming(CapabilityStore x, int... due) {
        for (int s = 0; s < 6; s++) {
            int subject = s;
            Expect.is("coming(" + s + ")", due[s], () -> x.coming(subject));
        }
    }

    /** A line of mailboxes: 5 writes to 4, 4 to 3, 3 to 2, and each token can be granted but the last. */
    private static CapabilityStore line() {
        CapabilityStore x = new CapabilityStore();
        x.mint(5, 4, 6);
        x.mint(4, 3, 6);
        x.mint(3, 2, 2);
        x.mint(5, 9, 5);
        x.mint(5, 10, 1);
        return x;
    }

    private static void promise32Coming() {
        CapabilityStore x = line();
        coming(x, 0, 0, 11, 15, 11, 25);
        x.mint(2, 5, 2);
        coming(x, 0, 0, 11 + 32, 15, 11, 27);
        Expect.fails("no such subject", Expect.INDEX, () -> x.coming(6));
        Expect.fails("no such subject", Expect.INDEX, () -> x.coming(-1));
        Expect.is("nothing is held for it", 0, () -> x.held(2) & 1);
    }

    private static void promise32ComingNeedsRights() {
        CapabilityStore x = new CapabilityStore();
        x.mint(0, 1, 15);
        x.mint(0, 6, 15);
        coming(x, 3, 3, 0, 0, 0, 0);
        x.revoke(0, 0);
        coming(x, 3, 0, 0, 0, 0, 0);
        Expect.derive(x, 0, 1, "r11");
        x.mint(0, 2, 2);
        coming(x, 15, 0, 2, 0, 0, 0);
        Expect.derive(x, 0, 1, "s2");
        coming(x, 31, 0, 2, 0, 0, 0);
        Expect.derive(x, 0, 1, "s0;a500-999");
        coming(x, 63, 0, 2 + 32, 0, 0, 0);
        x.mint(1, 2, 13);
        coming(x, 63, 64, 34, 0, 0, 0);
        Expect.derive(x, 0, 1, "t1");
        coming(x, 191, 64, 34 + 128, 0, 0, 0);
        x.pass(1);
        coming(x, 191, 64, 34, 0, 0, 0);
        x.mint(2, 6, 15);
        coming(x, 191, 64, 34 + 256, 0, 0, 0);
    }

    private static void promise32ComingFromBoxes() {
        CapabilityStore x = new CapabilityStore();
        x.mint(0, 4, 6);
        x.mint(0, 8, 4);
        x.makePair(0);
        x.makePair(0);
        x.seal(0, 0, 0);
        x.seal(0, 1, 1);
        x.drop(0, 0);
        x.drop(0, 1);
        coming(x, 3, 0, 0, 0, 3, 0);
        x.giveBox(0, 1, 1);
        x.givePair(0, 1, 0, true);
        coming(x, 3, 0, 0, 0, 3, 0);
        x.givePair(0, 1, 1, false);
        coming(x, 3, 0, 0, 0, 3, 0);
        x.givePair(0, 1, 1, true);
        coming(x, 3, 2, 0, 0, 3, 0);
        x.givePair(0, 2, 1, true);
        coming(x, 3, 2, 0, 0, 3, 0);
        Expect.is("from a box in round 0", 0, () -> x.round(0, 0));
        Expect.is("from a box in round 0", 0, () -> x.round(1, 1));
        Expect.is("through the mailbox", 1, () -> x.round(4, 1));
    }

    private static void promise33Round() {
        CapabilityStore x = line();
        int[][] due = {
            {-1, -1, -1, -1, -1}, {-1, -1, -1, -1, -1}, {3, 2, -1, 3, -1}, {2, 1, 0, 2, -1}, {1, 0, -1, 1, -1},
            {0, -1, -1, 0, 0},
        };
        for (int s = 0; s < 6; s++) {
            for (int t = 0; t < 5; t++) {
                int subject = s;
                int token = t;
                String call = "round(" + s + ", " + t + ")";
                if (due[s][t] >= 0) {
                    Expect.is(call, due[s][t], () -> x.round(subject, token));
                }
            }
        }
        Expect.fails("it could not come", Expect.ELEMENT, () -> x.round(0, 0));
        Expect.fails("it could not come", Expect.ELEMENT, () -> x.round(2, 4));
        Expect.fails("no such subject", Expect.INDEX, () -> x.round(6, 0));
        Expect.fails("no such subject", Expect.INDEX, () -> x.round(-1, 0));
        Expect.fails("no such token", Expect.INDEX, () -> x.round(0, 5));
        Expect.fails("no such token", Expect.INDEX, () -> x.round(0, -1));
        x.give(5, 2, 3);
        Expect.is("the first round counts", 0, () -> x.round(2, 3));
    }

    private static void promise34Reached() {
        CapabilityStore x = line();
        int mail = 1 << 4;
        int next = 1 << 3;
        int last = 1 << 2;
        Expect.is("reached(5)", mail | 1 << 9 | 1 << 10, () -> x.reached(5));
        Expect.is("reached(4)", mail | next | 1 << 9, () -> x.reached(4));
        Expect.is("reached(3)", mail | next | last | 1 << 9, () -> x.reached(3));
        Expect.is("reached(2)", mail | next | 1 << 9, () -> x.reached(2));
        Expect.is("reached(0)", 0, () -> x.reached(0));
        x.mint(0, 11, 4);
        x.mint(0, 6, 0);
        x.mint(0, 0, 8);
        Expect.derive(x, 0, 7, "s3");
        Expect.is("grant alone is enough, nothing is not", 1 << 11 | 1, () -> x.reached(0));
        x.drop(0, 7);
        Expect.is("not with what is for another subject", 1 << 11, () -> x.reached(0));
        Expect.fails("no such subject", Expect.INDEX, () -> x.reached(6));
        Expect.fails("no such subject", Expect.INDEX, () -> x.reached(-1));
    }

    private static void promise35IsConfined() {
        CapabilityStore x = new CapabilityStore();
        x.mint(0, 0, 1);
        x.mint(0, 11, 1);
        Expect.is("to just these", true, x.isConfined(0, 1 | 1 << 11));
        Expect.is("to more", true, x.isConfined(0, 4095));
        Expect.is("to one of them", false, x.isConfined(0, 1));
        Expect.is("to the other", false, x.isConfined(0, 1 << 11));
        Expect.is("to none", false, x.isConfined(0, 0));
        Expect.is("one that reaches nothing", true, x.isConfined(1, 0));
        int[] wrong = {4096, -1, Integer.MIN_VALUE, 4097};
        for (int objects : wrong) {
            Expect.fails("isConfined(0, " + objects + ")", Expect.ARGUMENT, () -> x.isConfined(0, objects) ? 1 : 0);
            Expect.fails("isConfined(6, " + objects + ")", Expect.INDEX, () -> x.isConfined(6, objects) ? 1 : 0);
        }
        Expect.fails("no such subject", Expect.INDEX, () -> x.isConfined(-1, 0) ? 1 : 0);
    }
}
