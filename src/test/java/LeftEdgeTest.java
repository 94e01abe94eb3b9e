/** The sentences of promises 12 to 16 that name a boundary: what is left, who holds, what is below, ranks. */
public final class LeftEdgeTest {
    public static void main(String[] args) {
        nothingNarrows();
        leftRights();
        leftTime();
        leftSubjects();
        leftUses();
        leftArguments();
        leftOfRevoked();
        leftOfOneAfterAnother();
        heldAndHolders();
        belowEach();
        rankedTies();
        Expect.finish();
    }

    /** A token of the root r15 with the text, alone in its store. */
    private static void left(String text, int what, int due) {
        CapabilityStore x = new CapabilityStore();
        x.mint(0, 0, 15);
        Expect.derive(x, 0, 0, text);
        Expect.is("left(" + text + ", " + what + ")", due, () -> x.left(1, what));
    }

    /** The same for two tokens, one below the other. */
    private static void leftOfTwo(String upper, String lower, int what, int due) {
        CapabilityStore x = new CapabilityStore();
        x.mint(0, 0, 15);
        Expect.derive(x, 0, 0, upper);
        Expect.derive(x, 0, 1, lower);
        Expect.is("left(" + upper + " and " + lower + ", " + what + ")", due, () -> x.left(2, what));
        CapabilityStore y = new CapabilityStore();
        y.mint(0, 0, 15);
        Expect.derive(y, 0, 0, lower);
        Expect.derive(y, 0, 1, upper);
        Expect.is("left(" + lower + " and " + upper + ", " + what + ")", due, () -> y.left(2, what));
    }

    /** "or -1 if there are none", "or -1 if there are no such caveats"; all subjects, all arguments. */
    private static void nothingNarrows() {
        CapabilityStore x = new CapabilityStore();
        x.mint(0, 0, 15);
        int[] due = {15, -1, 63, -1, 0, 999};
        for (int what = 0; what <= 5; what++) {
            int number = what;
            Expect.is("left of a root, " + what, due[what], () -> x.left(0, number));
        }
        x.request(0, 0, 1, 0);
        x.pass(100);
        for (int what = 0; what <= 5; what++) {
            int number = what;
            Expect.is("left of a used root later, " + what, due[what], () -> x.left(0, number));
        }
    }

    /** "0 for the rights that are in the sets of all caveats of kind 0". */
    private static void leftRights() {
        left("r15", 0, 15);
        left("r0", 0, 0);
        left("t1", 0, 15);
        left("r9;r10", 0, 8);
        left("r1;r2", 0, 0);
        left("r7;r11;r13;r14", 0, 0);
        leftOfTwo("r7", "r14", 0, 6);
        leftOfTwo("r0", "r15", 0, 0);
        CapabilityStore x = new CapabilityStore();
        x.mint(0, 0, 0);
        Expect.derive(x, 0, 0, "r15");
        Expect.is("below a root without rights", 0, () -> x.left(1, 0));
    }

    /** "1 for the least time of the caveats of kind 1": the time itself, also when it has come. */
    private static void leftTime() {
        left("t0", 1, 0);
        left("t999", 1, 999);
        left("t5;t4", 1, 4);
        left("t4;t5", 1, 4);
        left("t0;t1", 1, 0);
        left("n1", 1, -1);
        leftOfTwo("t8", "t9", 1, 8);
        leftOfTwo("t0", "t999", 1, 0);
        leftOfTwo("r1", "t3", 1, 3);
        CapabilityStore x = new CapabilityStore();
        x.mint(0, 0, 15);
        Expect.derive(x, 0, 0, "t4;t9");
        x.pass(6);
        Expect.is("left when it has come", 4, () -> x.left(1, 1));
    }

    /** "2 for the set of the subjects for which all caveats of kind 2 hold". */
    private static void leftSubjects() {
        for (int s = 0; s < 6; s++) {
            left("s" + s, 2, 1 << s);
        }
        left("s3;s3", 2, 8);
        left("s3;s4", 2, 0);
        left("s0;s5", 2, 0);
        left("r1", 2, 63);
        leftOfTwo("s5", "s5", 2, 32);
        leftOfTwo("s5", "s0", 2, 0);
        leftOfTwo("s2", "n1", 2, 4);
    }

    /** "3 for the least difference of the number of a caveat of kind 3 and the uses of its token, at least 0". */
    private static void leftUses() {
        left("n0", 3, 0);
        left("n999", 3, 999);
        left("n3;n2", 3, 2);
        left("n2;n3", 3, 2);
        left("n1;n0", 3, 0);
        left("t0", 3, -1);
        leftOfTwo("n8", "n9", 3, 8);
        leftOfTwo("n0", "n9", 3, 0);
        CapabilityStore x = new CapabilityStore();
        x.mint(0, 0, 15);
        Expect.derive(x, 0, 0, "n3");
        Expect.derive(x, 0, 1, "n2");
        Expect.is("the lower one is the least", 2, () -> x.left(2, 3));
        x.request(0, 1, 1, 0);
        Expect.is("both are equal", 2, () -> x.left(2, 3));
        x.request(0, 1, 1, 0);
        Expect.is("the upper one is the least", 1, () -> x.left(2, 3));
        x.request(0, 2, 1, 0);
        Expect.is("none is left", 0, () -> x.left(2, 3));
        Expect.is("none is left above", 0, () -> x.left(1, 3));
        Expect.fails("one too many", Expect.DENIED, () -> x.request(0, 2, 1, 0));
        Expect.is("it stays at 0", 0, () -> x.left(2, 3));
        Expect.is("a root has no such caveat", -1, () -> x.left(0, 3));
        Expect.derive(x, 0, 0, "n1");
        Expect.is("uses of the root do not count", 1, () -> x.left(3, 3));
    }

    private static void leftRange(String text, int least, int greatest) {
        left(text, 4, least);
        left(text, 5, greatest);
    }

    /** "4 for the least and 5 for the greatest argument from 0 to 999 .., or -1 if there is no such argument". */
    private static void leftArguments() {
        leftRange("a0-999", 0, 999);
        leftRange("a0-0", 0, 0);
        leftRange("a999-999", 999, 999);
        leftRange("a1-998", 1, 998);
        leftRange("a5-9;a9-12", 9, 9);
        leftRange("a5-9;a10-12", -1, -1);
        leftRange("a10-12;a5-9", -1, -1);
        leftRange("a5-9;a6-8", 6, 8);
        leftRange("a0-0;a1-1", -1, -1);
        leftRange("a0-0;a0-5", 0, 0);
        leftRange("r1", 0, 999);
        leftOfTwo("a5-9", "a9-12", 4, 9);
        leftOfTwo("a5-9", "a9-12", 5, 9);
        leftOfTwo("a5-9", "a10-12", 4, -1);
        leftOfTwo("a5-9", "a10-12", 5, -1);
        leftOfTwo("a0-500", "a3-999", 4, 3);
        leftOfTwo("a0-500", "a3-999", 5, 500);
    }

    /** What is left is of the caveats alone. */
    private static void leftOfRevoked() {
        CapabilityStore x = new CapabilityStore();
        x.mint(0, 0, 15);
        Expect.derive(x, 0, 0, "r3;s2;n4;a1-2");
        x.revoke(0, 0);
        x.drop(0, 1);
        int[] due = {3, -1, 4, 4, 1, 2};
        for (int what = 0; what <= 5; what++) {
            int number = what;
            Expect.is("left of a revoked one, " + what, due[what], () -> x.left(1, number));
        }
    }

    /** Each token by itself, whichever was asked about before. */
    private static void leftOfOneAfterAnother() {
        CapabilityStore x = new CapabilityStore();
        x.mint(0, 0, 15);
        Expect.derive(x, 0, 0, "r2;t5;s1;n3");
        Expect.derive(x, 0, 0, "a500-600");
        Expect.derive(x, 0, 2, "a5-9");
        int[][] due = {{15, -1, 63, -1, 0, 999}, {2, 5, 2, 3, 0, 999}, {15, -1, 63, -1, 500, 600}, {15, -1, 63, -1, -1, -1}};
        for (int[] order : new int[][] {{0, 1, 2, 3}, {3, 2, 1, 0}, {1, 3, 0, 2}}) {
            for (int what = 0; what <= 5; what++) {
                for (int t : order) {
                    int number = what;
                    Expect.is("left(" + t + ", " + what + ")", due[t][what], () -> x.left(t, number));
                }
            }
            for (int t : order) {
                Expect.is("rights(1, " + t + ")", t == 3 ? 0 : due[t][0], () -> x.rights(1, t));
            }
        }
    }

    /** Promises 13 and 14: none, one and all. */
    private static void heldAndHolders() {
        CapabilityStore x = new CapabilityStore();
        Expect.is("held in an empty store", 0, () -> x.held(0));
        for (int t = 0; t < 28; t++) {
            x.mint(5, 0, 4);
        }
        Expect.is("held by the one", (1 << 28) - 1, () -> x.held(5));
        Expect.is("held by another one", 0, () -> x.held(4));
        x.give(5, 4, 27);
        x.give(5, 4, 0);
        Expect.is("the first and the last", 1 | 1 << 27, () -> x.held(4));
        Expect.is("holders of the last", 48, () -> x.holders(27));
        x.drop(5, 27);
        Expect.is("held by the one", (1 << 27) - 1, () -> x.held(5));
        Expect.is("holders of the last", 16, () -> x.holders(27));
        Expect.is("holders of one between", 32, () -> x.holders(13));
    }

    /** Promise 15: "the token itself included", all below it, none beside or above it; revoked ones, too. */
    private static void belowEach() {
        CapabilityStore x = new CapabilityStore();
        x.mint(0, 7, 15);
        x.mint(0, 7, 15);
        for (int parent : new int[] {0, 2, 3, 2, 1, 0}) {
            Expect.derive(x, 0, parent, "r15");
        }
        int[] due = {1 | 4 | 8 | 16 | 32 | 128, 2 | 64, 4 | 8 | 16 | 32, 8 | 16, 16, 32, 64, 128};
        for (int t = 0; t < 8; t++) {
            int token = t;
            Expect.is("below(" + t + ")", due[t], () -> x.below(token));
        }
        x.revoke(0, 3);
        x.drop(0, 4);
        Expect.is("below with a revoked one between", due[2], () -> x.below(2));
    }

    /** Promise 16: "by their objects, .. by descending lengths of their chains, .. by their numbers". */
    private static void rankedTies() {
        CapabilityStore x = new CapabilityStore();
        x.mint(0, 5, 15);
        Expect.is("the only one", 0, () -> x.ranked(0));
        Expect.fails("no second one", Expect.ELEMENT, () -> x.ranked(1));
        x.mint(0, 11, 15);
        x.mint(0, 0, 15);
        x.mint(0, 5, 15);
        Expect.derive(x, 0, 3, "r1");
        Expect.derive(x, 0, 0, "r1");
        Expect.derive(x, 0, 5, "r1");
        Expect.derive(x, 0, 2, "r1");
        int[] due = {7, 2, 6, 4, 5, 0, 3, 1};
        for (int r = 0; r < 8; r++) {
            int rank = r;
            Expect.is("ranked(" + r + ")", due[r], () -> x.ranked(rank));
        }
        Expect.fails("no ninth one", Expect.ELEMENT, () -> x.ranked(8));
        x.revoke(0, 2);
        x.drop(0, 7);
        Expect.is("revoked and not held ones keep their ranks", 7, () -> x.ranked(0));
    }
}
