/** The sentences about subjects, objects, tokens and rights that name a boundary; promises 1, 2, 6 to 10, 12 to 16. */
public final class TokenEdgeTest {
    public static void main(String[] args) {
        firstAndLastSubject();
        firstAndLastObject();
        allIsZeroAtFirst();
        newObjectsAreApart();
        tokenNumbers();
        the28thToken();
        theSeventhOfAChain();
        anyNumberOfHolders();
        mintRights();
        mintIsHeldByOne();
        giveOnce();
        giveAsksWithArgument0();
        giveAsksForTheGiver();
        giveLeavesNoTrace();
        dropTheLast();
        revokeOneAndAll();
        revokeBelowAndAboveRevoked();
        revokeByHoldersOfTheChain();
        revokedStaysByTheFirst();
        tokenEachWhat();
        caveatEachWhat();
        Expect.finish();
    }

    /** "There are 6 subjects, numbered from 0". */
    private static void firstAndLastSubject() {
        for (int s : new int[] {0, 5}) {
            CapabilityStore x = new CapabilityStore();
            int other = 5 - s;
            Expect.is("mint", 0, () -> x.mint(s, s, 15));
            Expect.is("derive", 1, () -> Expect.derive(x, s, 0, "s" + s));
            Expect.is("give", 2, () -> x.give(s, other, 0));
            Expect.is("give back", 2, () -> x.give(other, s, 0));
            Expect.is("drop", 1, () -> x.drop(other, 0));
            Expect.is("held", 3, () -> x.held(s));
            Expect.is("held by the other", 0, () -> x.held(other));
            Expect.is("request", 0, () -> x.request(s, 1, 1, 0));
            Expect.is("log", 1000 * s + 11, () -> x.log(0));
            Expect.is("logged", 1, () -> x.logged(s, true));
            Expect.is("logged for the other", 0, () -> x.logged(other, true));
            Expect.is("makePair", 0, () -> x.makePair(s));
            Expect.is("givePair", 33, () -> x.givePair(s, other, 0, true));
            Expect.is("givePair", 33, () -> x.givePair(other, s, 0, true));
            Expect.is("seal", 0, () -> x.seal(s, 0, 0));
            Expect.is("giveBox", 33, () -> x.giveBox(s, other, 0));
            Expect.is("giveBox", 33, () -> x.giveBox(other, s, 0));
            Expect.is("coming", 1, () -> x.coming(other));
            Expect.is("unseal", 0, () -> x.unseal(other, 0));
            Expect.is("rights", 15, () -> x.rights(s, 1));
            Expect.is("rights of the other", 0, () -> x.rights(other, 1));
            Expect.is("round", 0, () -> x.round(s, 1));
            Expect.is("reached", 1 << s, () -> x.reached(s));
            Expect.is("isConfined", true, x.isConfined(s, 1 << s));
            Expect.is("isConfined", false, x.isConfined(other, 0));
            Expect.is("revoke", 1, () -> x.revoke(s, 1));
            Expect.is("revoke", 1, () -> x.revoke(other, 0));
        }
    }

    /** "12 objects, numbered from 0". */
    private static void firstAndLastObject() {
        CapabilityStore x = new CapabilityStore();
        x.mint(0, 0, 15);
        x.mint(0, 11, 15);
        Expect.is("the first object", 0, () -> x.token(0, 0));
        Expect.is("the last object", 11, () -> x.token(1, 0));
        x.request(0, 1, 2, 7);
        x.request(0, 0, 2, 6);
        x.request(0, 1, 8, 0);
        for (int o = 0; o < 12; o++) {
            int object = o;
            boolean edge = o == 0 || o == 11;
            Expect.is("content of " + o, o == 0 ? 6 : o == 11 ? 7 : 0, () -> x.object(object, 0));
            Expect.is("calls of " + o, o == 11 ? 1 : 0, () -> x.object(object, 1));
            Expect.is("tokens for " + o, edge ? 1 : 0, () -> x.object(object, 2));
        }
        Expect.is("reached", 1 | 1 << 11, () -> x.reached(0));
    }

    /** "both 0 at first", "The time is 0 at first", "a number of uses, 0 at first", "At first there are no levels". */
    private static void allIsZeroAtFirst() {
        CapabilityStore x = new CapabilityStore();
        Expect.is("the time", 0, () -> x.count(1));
        Expect.is("levels", 0, x::levels);
        Expect.is("no text was read", -1, x::errorPosition);
        x.mint(0, 3, 15);
        Expect.is("the first content", 0, () -> x.request(0, 0, 2, 9));
        Expect.is("the first call", 1, () -> x.request(0, 0, 8, 9));
        Expect.is("uses of the root", 2, () -> x.token(0, 3));
        Expect.derive(x, 0, 0, "n2");
        Expect.is("uses of one derived from a used one", 0, () -> x.token(1, 3));
        Expect.is("its own uses count", 2, () -> x.left(1, 3));
        Expect.is("calls of another object", 0, () -> x.object(4, 1));
        Expect.is("holds before 1", 15, () -> x.rights(0, Expect.derive(x, 0, 0, "t1")));
        Expect.is("never holds", 0, () -> x.rights(0, Expect.derive(x, 0, 0, "t0")));
    }

    /** Promise 1: each new object is without what another one has. */
    private static void newObjectsAreApart() {
        CapabilityStore x = RefusalTest.busy();
        CapabilityStore y = new CapabilityStore();
        for (int what = 0; what <= 8; what++) {
            int number = what;
            Expect.is("count(" + what + ") of a new object", 0, () -> y.count(number));
        }
        Expect.fails("nothing is saved in a new object", Expect.STATE, y::restore);
        Expect.is("the first token of a new object", 0, () -> y.mint(3, 3, 3));
        Expect.is("the first pair of a new object", 0, () -> y.makePair(1));
        Expect.is("the first box of a new object", 0, () -> {
            y.makePair(3);
            return y.seal(3, 1, 0);
        });
        Expect.is("tokens of the other object", 5, () -> x.count(0));
    }

    /** "numbered from 0 in the order in which they came into being", by mint and by derive. */
    private static void tokenNumbers() {
        CapabilityStore x = new CapabilityStore();
        Expect.is("the first", 0, () -> x.mint(0, 0, 15));
        Expect.is("the second", 1, () -> Expect.derive(x, 0, 0, "r1"));
        Expect.is("the third", 2, () -> x.mint(0, 0, 15));
        Expect.fails("a refused one", Expect.ARGUMENT, () -> Expect.derive(x, 0, 2, "q"));
        Expect.fails("a refused one", Expect.ARGUMENT, () -> x.mint(0, 0, 16));
        Expect.is("the fourth", 3, () -> Expect.derive(x, 0, 2, "r1"));
        Expect.is("its parent", 2, () -> x.token(3, 1));
        Expect.is("the parent of the second", 0, () -> x.token(1, 1));
        Expect.is("a root token has no parent", -1, () -> x.token(0, 1));
        Expect.is("a root token has no parent", -1, () -> x.token(2, 1));
        x.revoke(0, 0);
        x.drop(0, 0);
        x.drop(0, 1);
        Expect.is("numbers are not used again", 4, () -> x.mint(0, 0, 0));
    }

    /** "There are at most 28 tokens", roots and derived ones together. */
    private static void the28thToken() {
        for (boolean derived : new boolean[] {false, true}) {
            CapabilityStore x = new CapabilityStore();
            for (int t = 0; t < 27; t++) {
                x.mint(t % 6, t % 12, 15);
            }
            Expect.is("the 28th token", 27, () -> derived ? Expect.derive(x, 0, 0, "r15") : x.mint(0, 0, 15));
            Expect.is("tokens", 28, () -> x.count(0));
            Expect.is("living tokens", 28, () -> x.count(8));
            Expect.fails("a 29th root", Expect.STATE, () -> x.mint(0, 0, 15));
            Expect.fails("a 29th derived one", Expect.STATE, () -> Expect.derive(x, 0, 0, "r15"));
            Expect.is("give", 2, () -> x.give(0, 5, 27));
            Expect.is("holders", 33, () -> x.holders(27));
            Expect.is("held", 1 << 27, () -> x.held(5) & 1 << 27);
            Expect.is("below", 1 << 27, () -> x.below(27));
            Expect.is("below the first", derived ? 1 | 1 << 27 : 1, () -> x.below(0));
            Expect.is("coming", 1 << 27, () -> x.coming(5) & 1 << 27);
            Expect.is("round", 0, () -> x.round(5, 27));
            Expect.is("rights", 15, () -> x.rights(4, 27));
            Expect.is("request", 0, () -> x.request(5, 27, 1, 0));
            Expect.is("its entry", 5271, () -> x.log(0));
            Expect.is("left", 15, () -> x.left(27, 0));
            Expect.is("describe", 3, () -> x.describe(27, -1));
            Expect.is("caveat", 15, () -> x.caveat(27, 0, 1));
            Expect.is("token", derived ? 2 : 1, () -> x.token(27, 4));
            x.makePair(5);
            Expect.is("seal", 0, () -> x.seal(5, 0, 27));
            Expect.is("drop", 1, () -> x.drop(5, 27));
            Expect.is("unseal", 27, () -> x.unseal(5, 0));
            Expect.is("revoke", 1, () -> x.revoke(5, 27));
            int[] due = derived ? new int[] {27, 0, 12, 24} : new int[] {0, 12, 24, 27};
            for (int r = 0; r < 4; r++) {
                int rank = r;
                Expect.is("ranked(" + r + ")", due[r], () -> x.ranked(rank));
            }
            Expect.is("the last rank", 23, () -> x.ranked(27));
            Expect.fails("no further rank", Expect.ELEMENT, () -> x.ranked(28));
        }
    }

    /** "it has at most 7 tokens". */
    private static void theSeventhOfAChain() {
        CapabilityStore x = new CapabilityStore();
        x.mint(0, 6, 15);
        for (int t = 0; t < 6; t++) {
            int parent = t;
            Expect.is("derive from " + t, t + 1, () -> Expect.derive(x, 0, parent, "n" + (9 - parent)));
            Expect.is("the length of the chain", t + 2, () -> x.token(parent + 1, 4));
        }
        Expect.fails("an eighth", Expect.STATE, () -> Expect.derive(x, 0, 6, "r1"));
        Expect.is("another seventh", 7, () -> Expect.derive(x, 0, 5, "n3"));
        Expect.is("the length of its chain", 7, () -> x.token(7, 4));
        Expect.is("a root is alone in its chain", 1, () -> x.token(0, 4));
        Expect.is("request with the seventh", 0, () -> x.request(0, 7, 1, 0));
        for (int t = 0; t < 8; t++) {
            int token = t;
            Expect.is("uses of " + t, t == 6 ? 0 : 1, () -> x.token(token, 3));
        }
        Expect.is("what the whole chain leaves", 2, () -> x.left(7, 3));
        Expect.is("below the root", 255, () -> x.below(0));
        Expect.is("below the sixth", 32 + 64 + 128, () -> x.below(5));
        Expect.is("below one seventh", 64, () -> x.below(6));
        Expect.is("the longest chain is ranked first, then by numbers", 6, () -> x.ranked(0));
        Expect.is("the next", 7, () -> x.ranked(1));
        Expect.is("the last", 0, () -> x.ranked(7));
        x.revoke(0, 0);
        Expect.is("revoked at the other end", 1, () -> x.token(7, 5));
    }

    /** "A token can be held by any number of subjects"; "A token that nobody holds stays, with its number". */
    private static void anyNumberOfHolders() {
        CapabilityStore x = new CapabilityStore();
        x.mint(2, 3, 15);
        int held = 1;
        for (int s : new int[] {0, 1, 3, 4, 5}) {
            held++;
            Expect.is("give to " + s, held, () -> x.give(2, s, 0));
        }
        Expect.is("all hold it", 63, () -> x.holders(0));
        for (int s = 0; s < 6; s++) {
            int subject = s;
            Expect.is("drop by " + s, 5 - s, () -> x.drop(subject, 0));
        }
        Expect.is("nobody holds it", 0, () -> x.holders(0));
        Expect.is("it stays", 1, () -> x.count(0));
        Expect.is("it is not revoked", 0, () -> x.token(0, 5));
        Expect.is("it is still living", 1, () -> x.count(8));
        Expect.is("for its object", 1, () -> x.object(3, 2));
        Expect.is("with its rank", 0, () -> x.ranked(0));
        Expect.is("its rights are open", 15, () -> x.rights(4, 0));
        Expect.fails("but it comes to nobody", Expect.ELEMENT, () -> x.round(2, 0));
        Expect.is("the next number", 1, () -> x.mint(0, 0, 0));
        Expect.is("below it", 1, () -> x.below(0));
    }

    /** "the rights of its caveat, 0 to 15"; "The rights are 1 read, 2 write, 4 grant and 8 call". */
    private static void mintRights() {
        for (int r = 0; r <= 15; r++) {
            CapabilityStore x = new CapabilityStore();
            int rights = r;
            Expect.is("mint with " + r, 0, () -> x.mint(0, 0, rights));
            Expect.is("its value", r, () -> x.caveat(0, 0, 1));
            Expect.is("what is left", r, () -> x.left(0, 0));
            Expect.is("what is open", r, () -> x.rights(0, 0));
            Expect.same("its text", "r" + r, Expect.described(x, 0));
            Expect.is("read", (r & 1) != 0, Expect.outcome(() -> x.request(0, 0, 1, 0)).equals("0"));
            Expect.is("write", (r & 2) != 0, Expect.outcome(() -> x.request(0, 0, 2, 0)).equals("0"));
            Expect.is("grant", (r & 4) != 0, Expect.outcome(() -> x.give(0, 0, 0)).equals("1"));
            Expect.is("call", (r & 8) != 0, Expect.outcome(() -> x.request(0, 0, 8, 0)).equals("1"));
        }
    }

    /** "A root token has just one caveat, of kind 0"; it "is held by a subject". */
    private static void mintIsHeldByOne() {
        CapabilityStore x = new CapabilityStore();
        x.mint(4, 9, 6);
        Expect.is("caveats", 1, () -> x.token(0, 2));
        Expect.is("its kind", 0, () -> x.caveat(0, 0, 0));
        Expect.is("its value", 6, () -> x.caveat(0, 0, 1));
        Expect.is("it is no range", -1, () -> x.caveat(0, 0, 2));
        Expect.fails("a second caveat", Expect.INDEX, () -> x.caveat(0, 1, 0));
        Expect.is("holders", 16, () -> x.holders(0));
        for (int s = 0; s < 6; s++) {
            int subject = s;
            Expect.is("held by " + s, s == 4 ? 1 : 0, () -> x.held(subject));
        }
    }

    /** give "Returns the number of subjects that hold it then": one that holds it counts once. */
    private static void giveOnce() {
        CapabilityStore x = new CapabilityStore();
        x.mint(3, 0, 4);
        Expect.is("to itself", 1, () -> x.give(3, 3, 0));
        Expect.is("to another one", 2, () -> x.give(3, 0, 0));
        Expect.is("once more", 2, () -> x.give(3, 0, 0));
        Expect.is("the giving one holds it, too", 9, () -> x.holders(0));
        Expect.is("given on", 3, () -> x.give(0, 5, 0));
        Expect.is("after a drop", 2, () -> x.drop(3, 0));
        Expect.fails("the one that dropped it", Expect.DENIED, () -> x.give(3, 3, 0));
        Expect.is("given back", 3, () -> x.give(5, 3, 0));
    }

    /** "if asking for the right grant with the argument 0 is denied": ranges around 0. */
    private static void giveAsksWithArgument0() {
        CapabilityStore x = new CapabilityStore();
        x.mint(0, 0, 15);
        Expect.derive(x, 0, 0, "a0-0");
        Expect.derive(x, 0, 0, "a0-999");
        Expect.derive(x, 0, 0, "a1-999");
        Expect.derive(x, 0, 3, "a0-0");
        Expect.is("0 to 0", 2, () -> x.give(0, 1, 1));
        Expect.is("0 to 999", 2, () -> x.give(0, 1, 2));
        Expect.fails("1 to 999", Expect.DENIED, () -> x.give(0, 1, 3));
        Expect.same("its report", "4:3 14:0 20:0", Expect.reported(x));
        Expect.is("grant is open all the same", 15, () -> x.rights(0, 3));
        Expect.fails("below 1 to 999", Expect.DENIED, () -> x.give(0, 1, 4));
        Expect.same("its report", "4:3 14:0 20:0", Expect.reported(x));
    }

    /** Grant is asked for by the giving subject, not by the other one. */
    private static void giveAsksForTheGiver() {
        CapabilityStore x = new CapabilityStore();
        x.mint(0, 0, 15);
        Expect.derive(x, 0, 0, "s0");
        Expect.derive(x, 0, 0, "s1");
        Expect.derive(x, 0, 0, "r11");
        Expect.derive(x, 0, 0, "r4");
        Expect.derive(x, 0, 0, "t1");
        Expect.derive(x, 0, 0, "n0");
        Expect.is("for the giver alone", 2, () -> x.give(0, 1, 1));
        Expect.fails("the other one can't", Expect.DENIED, () -> x.give(1, 2, 1));
        Expect.same("its report", "4:1 12:0 20:1", Expect.reported(x));
        Expect.fails("for the receiver alone", Expect.DENIED, () -> x.give(0, 1, 2));
        Expect.same("its report", "4:2 12:0 20:0", Expect.reported(x));
        Expect.fails("all but grant", Expect.DENIED, () -> x.give(0, 1, 3));
        Expect.same("its report", "4:3 10:0 20:4", Expect.reported(x));
        Expect.is("grant alone", 2, () -> x.give(0, 1, 4));
        Expect.is("before the time", 2, () -> x.give(0, 1, 5));
        x.pass(1);
        Expect.fails("at the time", Expect.DENIED, () -> x.give(0, 2, 5));
        Expect.same("its report", "4:5 11:0 20:1", Expect.reported(x));
        Expect.fails("no uses", Expect.DENIED, () -> x.give(0, 2, 6));
        Expect.same("its report", "4:6 13:0 20:0", Expect.reported(x));
        Expect.fails("not held", Expect.DENIED, () -> x.give(4, 2, 0));
        Expect.same("its report", "1:0", Expect.reported(x));
        x.revoke(0, 0);
        Expect.fails("revoked above", Expect.DENIED, () -> x.give(0, 2, 4));
        Expect.same("its report", "2:0 3:0", Expect.reported(x));
    }

    /** "Asking for the right grant in give leaves no entry in the log and counts nowhere". */
    private static void giveLeavesNoTrace() {
        CapabilityStore x = new CapabilityStore();
        x.mint(0, 0, 15);
        Expect.derive(x, 0, 0, "n1");
        for (int i = 0; i < 3; i++) {
            int to = i + 1;
            Expect.is("give of one with one use", i + 2, () -> x.give(0, to, 1));
        }
        Expect.fails("a denied one", Expect.DENIED, () -> x.give(5, 0, 1));
        Expect.is("uses", 0, () -> x.token(1, 3));
        Expect.is("uses of the root", 0, () -> x.token(0, 3));
        Expect.is("entries", 0, () -> x.count(6));
        Expect.is("allowed", 0, () -> x.count(4));
        Expect.is("denied", 0, () -> x.count(5));
        Expect.fails("no entry", Expect.ELEMENT, () -> x.log(0));
        Expect.is("logged", 0, () -> x.logged(0, true) + x.logged(5, false));
        Expect.is("calls", 0, () -> x.object(0, 1));
        Expect.is("its use is there", 0, () -> x.request(3, 1, 1, 0));
    }

    /** drop "Returns the number of subjects that still hold it", also 0; no right is needed. */
    private static void dropTheLast() {
        CapabilityStore x = new CapabilityStore();
        x.mint(0, 0, 0);
        x.mint(0, 0, 15);
        Expect.is("the only holder", 0, () -> x.drop(0, 0));
        Expect.fails("not held any more", Expect.ELEMENT, () -> x.drop(0, 0));
        x.give(0, 5, 1);
        x.revoke(0, 1);
        Expect.is("one of two, revoked", 1, () -> x.drop(5, 1));
        Expect.fails("not held any more", Expect.ELEMENT, () -> x.drop(5, 1));
        Expect.is("the last one", 0, () -> x.drop(0, 1));
        Expect.is("held", 0, () -> x.held(0) | x.held(5));
        Expect.is("no report", 0, x::levels);
    }

    /** 0 - 1 - 2 - 3, and 4 below 1, 5 below 0, all held by 0. */
    private static CapabilityStore tree() {
        CapabilityStore x = new CapabilityStore();
        x.mint(0, 7, 15);
        for (int parent : new int[] {0, 1, 2, 1, 0}) {
            Expect.derive(x, 0, parent, "r15");
        }
        return x;
    }

    /** revoke "Returns the number of tokens that have this one, but no other revoked one in their chains then". */
    private static void revokeOneAndAll() {
        int[] due = {6, 4, 2, 1, 1, 1};
        for (int t = 0; t < 6; t++) {
            CapabilityStore x = tree();
            int token = t;
            Expect.is("revoke(0, " + t + ")", due[t], () -> x.revoke(0, token));
            Expect.is("living tokens then", 6 - due[t], () -> x.count(8));
            int below = x.below(t);
            for (int other = 0; other < 6; other++) {
                int number = other;
                Expect.is("revoked in the chain of " + other, below >>> other & 1, () -> x.token(number, 5));
            }
        }
    }

    private static void revokeBelowAndAboveRevoked() {
        CapabilityStore x = tree();
        Expect.is("the lowest one", 1, () -> x.revoke(0, 3));
        Expect.is("above a revoked one", 1, () -> x.revoke(0, 2));
        Expect.is("above both", 2, () -> x.revoke(0, 1));
        Expect.is("below a revoked one", 0, () -> x.revoke(0, 4));
        Expect.is("the rest", 2, () -> x.revoke(0, 0));
        Expect.is("below all", 0, () -> x.revoke(0, 5));
        Expect.is("living tokens", 0, () -> x.count(8));
        CapabilityStore y = tree();
        Expect.is("the root first", 6, () -> y.revoke(0, 0));
        for (int t = 1; t < 6; t++) {
            int token = t;
            Expect.is("then " + t, 0, () -> y.revoke(0, token));
        }
        Expect.is("0 if it was revoked already", 0, () -> y.revoke(0, 0));
    }

    /** "if the subject holds no token of its chain": the root, one between, itself; none below or beside. */
    private static void revokeByHoldersOfTheChain() {
        boolean[] may = {true, true, true, false, false, false};
        for (int t = 0; t < 6; t++) {
            CapabilityStore x = tree();
            x.give(0, 5, t);
            if (may[t]) {
                Expect.is("revoke by one that holds " + t, 2, () -> x.revoke(5, 2));
                Expect.same("who revoked it", "2:2 3:5", revokedReport(x, 2));
            } else {
                Expect.fails("revoke by one that holds " + t, Expect.DENIED, () -> x.revoke(5, 2));
                Expect.same("its report", "1:2", Expect.reported(x));
                Expect.is("nothing is revoked", 6, () -> x.count(8));
            }
        }
        CapabilityStore y = tree();
        y.drop(0, 2);
        Expect.is("by one that holds it no more, but its root", 2, () -> y.revoke(0, 2));
        CapabilityStore z = new CapabilityStore();
        z.mint(0, 0, 0);
        z.mint(0, 0, 15);
        Expect.derive(z, 0, 1, "s3;t0;n0");
        Expect.is("no right is needed", 1, () -> z.revoke(0, 0));
        Expect.is("no caveat needs to hold", 1, () -> z.revoke(0, 2));
        Expect.is("not even the one above", 1, () -> z.revoke(0, 1));
        Expect.is("nothing is logged", 0, () -> z.count(4) + z.count(5) + z.count(6));
    }

    private static String revokedReport(CapabilityStore x, int token) {
        Expect.outcome(() -> x.request(0, token, 1, 0));
        return Expect.reported(x);
    }

    /** "A token that is revoked already stays revoked by the first one." */
    private static void revokedStaysByTheFirst() {
        CapabilityStore x = tree();
        x.give(0, 4, 2);
        x.give(0, 5, 2);
        Expect.is("by 5", 2, () -> x.revoke(5, 2));
        Expect.is("by 4", 0, () -> x.revoke(4, 2));
        Expect.is("by 0", 0, () -> x.revoke(0, 2));
        Expect.same("it was 5", "2:2 3:5", revokedReport(x, 2));
        Expect.is("one below it, by 4", 0, () -> x.revoke(4, 3));
        Expect.same("the upper one counts", "2:2 3:5", revokedReport(x, 3));
        Expect.is("one above it, by 0", 2, () -> x.revoke(0, 1));
        Expect.same("the upper one counts", "2:1 3:0", revokedReport(x, 3));
        Expect.same("for this one, too", "2:1 3:0", revokedReport(x, 2));
    }

    private static void tokens(CapabilityStore x, int token, int... due) {
        for (int what = 0; what <= 6; what++) {
            int number = what;
            Expect.is("token(" + token + ", " + what + ")", due[what], () -> x.token(token, number));
        }
    }

    /** Promise 9, each what from 0 to 6: 5 looks up the chain alone, 6 down by one alone. */
    private static void tokenEachWhat() {
        CapabilityStore x = tree();
        x.mint(0, 11, 1);
        Expect.derive(x, 0, 6, "r1;t1;s1;n1");
        x.request(0, 4, 1, 0);
        x.revoke(0, 2);
        tokens(x, 0, 7, -1, 1, 1, 1, 0, 2);
        tokens(x, 1, 7, 0, 1, 1, 2, 0, 2);
        tokens(x, 2, 7, 1, 1, 0, 3, 1, 1);
        tokens(x, 3, 7, 2, 1, 0, 4, 1, 0);
        tokens(x, 4, 7, 1, 1, 1, 3, 0, 0);
        tokens(x, 5, 7, 0, 1, 0, 2, 0, 0);
        tokens(x, 6, 11, -1, 1, 0, 1, 0, 1);
        tokens(x, 7, 11, 6, 4, 0, 2, 0, 0);
    }

    /** Promise 10: "numbered from 0 in their order", "2 for the end of its range, or -1". */
    private static void caveatEachWhat() {
        CapabilityStore x = new CapabilityStore();
        x.mint(0, 0, 15);
        Expect.derive(x, 0, 0, "a0-0;a0-999;a999-999;r0");
        Expect.derive(x, 0, 0, "t0;s0;n0;t999");
        int[][] due = {{4, 0, 0}, {4, 0, 999}, {4, 999, 999}, {0, 0, -1}, {1, 0, -1}, {2, 0, -1}, {3, 0, -1}, {1, 999, -1}};
        for (int c = 0; c < 8; c++) {
            int token = 1 + c / 4;
            int caveat = c % 4;
            for (int what = 0; what <= 2; what++) {
                int number = what;
                Expect.is("caveat(" + token + ", " + caveat + ", " + what + ")", due[c][what],
                        () -> x.caveat(token, caveat, number));
            }
        }
        Expect.fails("a fifth caveat", Expect.INDEX, () -> x.caveat(1, 4, 0));
        Expect.derive(x, 0, 0, "s5");
        Expect.is("the only caveat", 5, () -> x.caveat(3, 0, 1));
        Expect.fails("a second caveat", Expect.INDEX, () -> x.caveat(3, 1, 0));
    }
}
