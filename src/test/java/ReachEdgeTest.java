/** The sentences about reachability that name a boundary; promises 31 to 35. */
public final class ReachEdgeTest {
    public static void main(String[] args) {
        openWithSomeArgument();
        openInTime();
        openWithUses();
        openToSubjects();
        openWhetherHeldOrNot();
        openUnlessRevoked();
        openThoughGiveIsDenied();
        eachMailbox();
        writeAndGrant();
        writeAndGrantOfTwo();
        rightsAreOpenToTheSender();
        mailboxesByArgument();
        ownMailbox();
        nothingComesOfNothing();
        heldRevokedOnesCome();
        boxesInRoundZero();
        boxesDoNotTravel();
        linesInBothOrders();
        tenRounds();
        theFirstRoundCounts();
        nothingChangesMeanwhile();
        reachedBySomeRight();
        reachedThroughOthers();
        confinedToEachSet();
        Expect.finish();
    }

    private static CapabilityStore rooted() {
        CapabilityStore x = new CapabilityStore();
        x.mint(0, 7, 15);
        return x;
    }

    private static void rights(CapabilityStore x, int subject, int token, int due) {
        Expect.is("rights(" + subject + ", " + token + ")", due, () -> x.rights(subject, token));
    }

    private static void coming(CapabilityStore x, int... due) {
        for (int s = 0; s < 6; s++) {
            int subject = s;
            Expect.is("coming(" + s + ")", due[s], () -> x.coming(subject));
        }
    }

    /** The round, or -1 if it could not come. */
    private static void round(CapabilityStore x, int subject, int token, int due) {
        String call = "round(" + subject + ", " + token + ")";
        if (due < 0) {
            Expect.fails(call, Expect.ELEMENT, () -> x.round(subject, token));
        } else {
            Expect.is(call, due, () -> x.round(subject, token));
        }
    }

    // ---- what is open ----

    /** "if asking for it would be allowed with some argument from 0 to 999". */
    private static void openWithSomeArgument() {
        String[] some = {"a0-0", "a999-999", "a0-999", "a5-9;a9-12", "a1-2;a2-3;a2-2;a0-999"};
        String[] none = {"a5-9;a10-12", "a0-0;a1-1", "a998-998;a999-999", "a1-2;a2-3;a3-4", "a10-12;a5-9"};
        for (String text : some) {
            CapabilityStore x = rooted();
            Expect.derive(x, 0, 0, text);
            rights(x, 0, 1, 15);
        }
        for (String text : none) {
            CapabilityStore x = rooted();
            Expect.derive(x, 0, 0, text);
            rights(x, 0, 1, 0);
            rights(x, 0, 0, 15);
        }
        CapabilityStore y = rooted();
        Expect.derive(y, 0, 0, "a0-5");
        Expect.derive(y, 0, 1, "a5-9");
        Expect.derive(y, 0, 1, "a6-9");
        Expect.derive(y, 0, 2, "a4-4");
        rights(y, 0, 2, 15);
        rights(y, 0, 3, 0);
        rights(y, 0, 4, 0);
    }

    private static void openInTime() {
        CapabilityStore x = rooted();
        Expect.derive(x, 0, 0, "t0");
        Expect.derive(x, 0, 0, "t1");
        Expect.derive(x, 0, 2, "t9");
        rights(x, 0, 1, 0);
        rights(x, 0, 2, 15);
        rights(x, 0, 3, 15);
        x.pass(1);
        rights(x, 0, 2, 0);
        rights(x, 0, 3, 0);
        rights(x, 0, 0, 15);
    }

    private static void openWithUses() {
        CapabilityStore x = rooted();
        Expect.derive(x, 0, 0, "n0");
        Expect.derive(x, 0, 0, "n2");
        Expect.derive(x, 0, 2, "n9");
        rights(x, 0, 1, 0);
        rights(x, 0, 3, 15);
        x.request(0, 2, 1, 0);
        rights(x, 0, 3, 15);
        x.request(0, 3, 1, 0);
        rights(x, 0, 2, 0);
        rights(x, 0, 3, 0);
    }

    private static void openToSubjects() {
        CapabilityStore x = rooted();
        Expect.derive(x, 0, 0, "s0");
        Expect.derive(x, 0, 0, "s5");
        Expect.derive(x, 0, 2, "s0");
        Expect.derive(x, 0, 2, "s5;r6");
        for (int s = 0; s < 6; s++) {
            rights(x, s, 0, 15);
            rights(x, s, 1, s == 0 ? 15 : 0);
            rights(x, s, 2, s == 5 ? 15 : 0);
            rights(x, s, 3, 0);
            rights(x, s, 4, s == 5 ? 6 : 0);
        }
    }

    /** "if the subject held the token"; "whether it holds it or not". */
    private static void openWhetherHeldOrNot() {
        CapabilityStore x = rooted();
        Expect.derive(x, 0, 0, "r5");
        for (int s = 0; s < 6; s++) {
            rights(x, s, 1, 5);
        }
        x.drop(0, 0);
        x.drop(0, 1);
        for (int s = 0; s < 6; s++) {
            rights(x, s, 1, 5);
        }
        Expect.is("no report", 0, x::levels);
        Expect.is("no entry", 0, () -> x.count(6));
    }

    private static void openUnlessRevoked() {
        CapabilityStore x = rooted();
        Expect.derive(x, 0, 0, "r15");
        Expect.derive(x, 0, 1, "r15");
        x.revoke(0, 1);
        rights(x, 0, 0, 15);
        rights(x, 0, 1, 0);
        rights(x, 0, 2, 0);
    }

    /** "a right is open if there is any argument for which it would be allowed, grant too". */
    private static void openThoughGiveIsDenied() {
        CapabilityStore x = new CapabilityStore();
        x.mint(0, 1, 15);
        Expect.derive(x, 0, 0, "a1-999;r6");
        Expect.fails("give asks with 0", Expect.DENIED, () -> x.give(0, 2, 1));
        rights(x, 0, 1, 6);
        x.drop(0, 0);
        coming(x, 2, 2, 0, 0, 0, 0);
    }

    // ---- what could come ----

    /** "The object with the number of a subject is the mailbox of that subject": 0 to 5, not 6 to 11. */
    private static void eachMailbox() {
        for (int o = 0; o < 12; o++) {
            for (int sender : new int[] {0, 5}) {
                CapabilityStore x = new CapabilityStore();
                x.mint(sender, o, 6);
                int[] due = new int[6];
                due[sender] = 1;
                if (o < 6) {
                    due[o] = 1;
                }
                coming(x, due);
                for (int s = 0; s < 6; s++) {
                    round(x, s, 0, s == sender ? 0 : s == o ? 1 : -1);
                }
            }
        }
    }

    /** One token needs both rights to go into a mailbox by itself. */
    private static void writeAndGrant() {
        for (int r = 0; r <= 15; r++) {
            CapabilityStore x = new CapabilityStore();
            x.mint(0, 3, r);
            boolean goes = (r & 6) == 6;
            coming(x, 1, 0, 0, goes ? 1 : 0, 0, 0);
        }
    }

    /** "a token whose right write is open .. all tokens .. whose right grant is open": two tokens, one for each. */
    private static void writeAndGrantOfTwo() {
        CapabilityStore x = new CapabilityStore();
        x.mint(0, 3, 2);
        coming(x, 1, 0, 0, 0, 0, 0);
        x.mint(0, 9, 4);
        x.mint(0, 9, 11);
        x.mint(0, 4, 13);
        x.mint(1, 9, 15);
        coming(x, 1 | 2 | 4 | 8, 16, 0, 2 | 8, 0, 0);
        x.drop(0, 0);
        coming(x, 2 | 4 | 8, 16, 0, 0, 0, 0);
    }

    /** "open to a subject s", the sender; what comes need not be open to the other one. */
    private static void rightsAreOpenToTheSender() {
        CapabilityStore x = new CapabilityStore();
        x.mint(0, 3, 15);
        Expect.derive(x, 0, 0, "s0");
        Expect.derive(x, 0, 0, "s3");
        x.drop(0, 0);
        coming(x, 2 | 4, 0, 0, 2, 0, 0);
        CapabilityStore y = new CapabilityStore();
        y.mint(0, 3, 15);
        Expect.derive(y, 0, 0, "s3");
        y.drop(0, 0);
        coming(y, 2, 0, 0, 0, 0, 0);
        CapabilityStore z = new CapabilityStore();
        z.mint(0, 1, 15);
        z.mint(1, 2, 15);
        Expect.derive(z, 0, 0, "s0");
        Expect.derive(z, 1, 1, "s0");
        z.drop(0, 0);
        z.drop(1, 1);
        coming(z, 4, 8 | 4, 0, 0, 0, 0);
    }

    private static void mailboxesByArgument() {
        String[] some = {"a0-0", "a999-999", "a3-4;a4-5", "t1", "n1", "r6"};
        String[] none = {"a3-4;a5-6", "t0", "n0", "r2", "r4", "r9", "s3"};
        for (String text : some) {
            CapabilityStore x = new CapabilityStore();
            x.mint(0, 3, 15);
            Expect.derive(x, 0, 0, text);
            x.drop(0, 0);
            coming(x, 2, 0, 0, 2, 0, 0);
        }
        for (String text : none) {
            CapabilityStore x = new CapabilityStore();
            x.mint(0, 3, 15);
            Expect.derive(x, 0, 0, text);
            x.drop(0, 0);
            coming(x, 2, 0, 0, 0, 0, 0);
        }
    }

    /** The subject u may be s itself: nothing new comes. */
    private static void ownMailbox() {
        for (int s = 0; s < 6; s++) {
            CapabilityStore x = new CapabilityStore();
            x.mint(s, s, 15);
            int[] due = new int[6];
            due[s] = 1;
            coming(x, due);
            round(x, s, 0, 0);
        }
    }

    private static void nothingComesOfNothing() {
        CapabilityStore x = new CapabilityStore();
        coming(x, 0, 0, 0, 0, 0, 0);
        x.mint(0, 1, 15);
        x.drop(0, 0);
        coming(x, 0, 0, 0, 0, 0, 0);
        round(x, 0, 0, -1);
        round(x, 1, 0, -1);
        x.makePair(2);
        coming(x, 0, 0, 0, 0, 0, 0);
    }

    /** "those that a subject holds could come to it", whether anything is open or not; revoked ones go no further. */
    private static void heldRevokedOnesCome() {
        CapabilityStore x = new CapabilityStore();
        x.mint(0, 1, 15);
        x.mint(0, 7, 15);
        Expect.derive(x, 0, 1, "r0;t0");
        x.revoke(0, 1);
        coming(x, 7, 1, 0, 0, 0, 0);
        round(x, 0, 2, 0);
        round(x, 0, 1, 0);
        round(x, 1, 1, -1);
        x.revoke(0, 0);
        coming(x, 7, 0, 0, 0, 0, 0);
    }

    /** "if a box that s holds is sealed with a pair whose unsealer s holds, its token could come to s". */
    private static void boxesInRoundZero() {
        CapabilityStore x = new CapabilityStore();
        x.mint(0, 7, 0);
        x.mint(0, 8, 15);
        x.makePair(0);
        x.makePair(0);
        x.seal(0, 0, 0);
        x.seal(0, 1, 1);
        x.giveBox(0, 3, 0);
        coming(x, 3, 0, 0, 0, 0, 0);
        x.givePair(0, 3, 1, true);
        coming(x, 3, 0, 0, 0, 0, 0);
        x.givePair(0, 3, 0, false);
        coming(x, 3, 0, 0, 0, 0, 0);
        x.givePair(0, 3, 0, true);
        coming(x, 3, 0, 0, 1, 0, 0);
        round(x, 3, 0, 0);
        x.drop(0, 0);
        coming(x, 3, 0, 0, 1, 0, 0);
        x.revoke(0, 1);
        x.giveBox(0, 3, 1);
        coming(x, 3, 0, 0, 3, 0, 0);
        x.givePair(0, 4, 0, true);
        coming(x, 3, 0, 0, 3, 0, 0);
    }

    /** Boxes, sealers and unsealers come to nobody by mailboxes; a token of a box goes on like a held one. */
    private static void boxesDoNotTravel() {
        CapabilityStore x = new CapabilityStore();
        x.mint(0, 1, 6);
        x.mint(2, 9, 5);
        x.mint(2, 10, 1);
        x.makePair(0);
        x.givePair(0, 2, 0, false);
        x.seal(2, 0, 1);
        x.seal(2, 0, 2);
        x.drop(2, 1);
        x.drop(2, 2);
        coming(x, 1, 1, 0, 0, 0, 0);
        x.giveBox(2, 0, 0);
        x.giveBox(2, 0, 1);
        coming(x, 7, 3, 0, 0, 0, 0);
        round(x, 0, 1, 0);
        round(x, 1, 1, 1);
        round(x, 1, 2, -1);
    }

    /** "from the tokens that came in all rounds before": one step a round, whichever way the subjects stand. */
    private static void linesInBothOrders() {
        int[][] lines = {{0, 1, 2, 3, 4, 5}, {5, 4, 3, 2, 1, 0}, {2, 5, 0, 4, 1, 3}};
        for (int[] line : lines) {
            CapabilityStore x = new CapabilityStore();
            for (int i = 0; i < 5; i++) {
                x.mint(line[i], line[i + 1], 2);
            }
            x.mint(line[0], 9, 4);
            for (int i = 0; i < 6; i++) {
                round(x, line[i], 5, i);
                int subject = line[i];
                int due = 1 << 5 | (i < 5 ? 1 << i : 0);
                Expect.is("coming(" + subject + ")", due, () -> x.coming(subject));
            }
        }
    }

    /** "This is applied as often as it adds something": one token opens the way for another one. */
    private static void tenRounds() {
        CapabilityStore x = new CapabilityStore();
        for (int s = 0; s < 5; s++) {
            x.mint(s, s + 1, 2);
        }
        x.mint(0, 0, 6);
        x.mint(5, 9, 4);
        int[] first = {0, 1, 2, 3, 4, 5};
        int[] second = {6, 7, 8, 9, 10, 0};
        for (int s = 0; s < 6; s++) {
            round(x, s, 5, first[s]);
            round(x, s, 6, second[s]);
            int subject = s;
            Expect.is("coming", 32 | 64 | (s < 5 ? 1 << s : 0), () -> x.coming(subject));
        }
        Expect.is("reached at the end", 1 | 1 << 5 | 1 << 9, () -> x.reached(4));
    }

    /** "Returns the number of the first such round": the shortest way. */
    private static void theFirstRoundCounts() {
        CapabilityStore x = new CapabilityStore();
        x.mint(0, 1, 2);
        x.mint(1, 2, 2);
        x.mint(2, 3, 2);
        x.mint(0, 9, 4);
        round(x, 3, 3, 3);
        x.mint(0, 3, 2);
        round(x, 3, 3, 1);
        round(x, 2, 3, 2);
        x.give(0, 2, 3);
        round(x, 2, 3, 0);
        round(x, 1, 3, 1);
        x.drop(0, 3);
        round(x, 0, 3, -1);
        round(x, 1, 3, -1);
        round(x, 3, 3, 1);
        Expect.fails("no such token", Expect.INDEX, () -> x.round(0, 5));
        round(x, 4, 4, -1);
    }

    /** "nothing else changes meanwhile": uses and time stay as often as a token goes on. */
    private static void nothingChangesMeanwhile() {
        CapabilityStore x = new CapabilityStore();
        x.mint(0, 1, 15);
        Expect.derive(x, 0, 0, "n1;t1");
        x.mint(1, 2, 2);
        x.mint(2, 3, 2);
        x.drop(0, 0);
        coming(x, 2, 2 | 4, 2 | 8, 2, 0, 0);
        round(x, 3, 1, 3);
        Expect.is("uses", 0, () -> x.token(1, 3));
        Expect.is("holders", 1, () -> x.holders(1));
        Expect.is("content of the mailbox", 0, () -> x.object(1, 0));
        Expect.is("the time", 0, () -> x.count(1));
        Expect.is("entries", 0, () -> x.count(6));
        coming(x, 2, 2 | 4, 2 | 8, 2, 0, 0);
    }

    // ---- what can be reached ----

    /** "if some right is open"; "An object can be reached also if grant alone is open to it." */
    private static void reachedBySomeRight() {
        for (int r = 0; r <= 15; r++) {
            CapabilityStore x = new CapabilityStore();
            x.mint(0, 11, r);
            int due = r == 0 ? 0 : 1 << 11;
            Expect.is("reached with " + r, due, () -> x.reached(0));
            Expect.is("reached by another", 0, () -> x.reached(1));
            Expect.is("confined with " + r, r == 0, x.isConfined(0, 0));
        }
        String[] none = {"r0", "t0", "n0", "s1", "a1-1;a2-2"};
        for (String text : none) {
            CapabilityStore x = rooted();
            Expect.derive(x, 0, 0, text);
            x.drop(0, 0);
            Expect.is("reached with " + text, 0, () -> x.reached(0));
        }
        CapabilityStore y = rooted();
        Expect.derive(y, 0, 0, "r0");
        Expect.is("one of two tokens is enough", 1 << 7, () -> y.reached(0));
        y.revoke(0, 0);
        Expect.is("revoked", 0, () -> y.reached(0));
        CapabilityStore z = new CapabilityStore();
        for (int o = 0; o < 12; o++) {
            z.mint(5, o, 1);
        }
        Expect.is("all objects", 4095, () -> z.reached(5));
        Expect.is("none", 0, () -> z.reached(4));
    }

    private static void reachedThroughOthers() {
        CapabilityStore x = new CapabilityStore();
        x.mint(0, 1, 2);
        x.mint(0, 10, 12);
        Expect.derive(x, 0, 1, "s1");
        Expect.is("by the sender", 1 << 1 | 1 << 10, () -> x.reached(0));
        Expect.is("through the mailbox", 1 << 10, () -> x.reached(1));
        x.makePair(0);
        x.seal(0, 0, 2);
        x.giveBox(0, 2, 0);
        x.givePair(0, 2, 0, true);
        Expect.is("out of a box, but not open", 0, () -> x.reached(2));
        x.seal(0, 0, 1);
        x.giveBox(0, 2, 1);
        Expect.is("out of a box", 1 << 10, () -> x.reached(2));
        x.mint(1, 8, 1);
        x.makePair(1);
        Expect.is("not what another one holds", 1 << 10, () -> x.reached(2));
        Expect.is("what it holds itself", 1 << 8 | 1 << 10, () -> x.reached(1));
    }

    /** "no other objects can be reached by it"; "if a bit is set for no object". */
    private static void confinedToEachSet() {
        CapabilityStore x = new CapabilityStore();
        x.mint(0, 0, 1);
        x.mint(0, 5, 8);
        x.mint(0, 11, 4);
        int reached = 1 | 1 << 5 | 1 << 11;
        for (int objects = 0; objects < 4096; objects += 31) {
            Expect.is("isConfined(0, " + objects + ")", (reached & ~objects) == 0, x.isConfined(0, objects));
        }
        Expect.is("to just these", true, x.isConfined(0, reached));
        for (int o = 0; o < 12; o++) {
            boolean needed = o == 0 || o == 5 || o == 11;
            Expect.is("to all but " + o, !needed, x.isConfined(0, 4095 & ~(1 << o)));
        }
        Expect.is("to all", true, x.isConfined(0, 4095));
        Expect.is("to none", false, x.isConfined(0, 0));
        Expect.is("one that reaches nothing, to none", true, x.isConfined(1, 0));
        for (int bit = 12; bit < 32; bit++) {
            int objects = 1 << bit;
            Expect.fails("isConfined with bit " + bit, Expect.ARGUMENT, () -> x.isConfined(0, objects) ? 1 : 0);
            Expect.fails("the same for one that reaches nothing", Expect.ARGUMENT,
                    () -> x.isConfined(1, objects) ? 1 : 0);
        }
        Expect.fails("no subject comes first", Expect.INDEX, () -> x.isConfined(6, 4096) ? 1 : 0);
    }
}
