/** The sentences about caveats, checking and reports that name a boundary; promises 17, 23 and 24. */
public final class CheckEdgeTest {
    public static void main(String[] args) {
        setsOfRights();
        times();
        subjects();
        uses();
        ranges();
        rangesCountForEachRight();
        notHeldCountsFirst();
        theRootIsLookedAtFirst();
        caveatsInTheirOrder();
        revokedIsNoticedFirst();
        lowerOnesDoNotCount();
        usesOfTheChain();
        whatTheObjectDoes();
        deniedDoesNothing();
        reportsOfEachKind();
        reportsAtTheEnds();
        reportsOfOthers();
        reportsReplace();
        reportsStay();
        Expect.finish();
    }

    private static CapabilityStore rooted() {
        CapabilityStore x = new CapabilityStore();
        x.mint(0, 7, 15);
        return x;
    }

    private static void denied(CapabilityStore x, int subject, int token, int right, int argument, String report) {
        String call = "request(" + subject + ", " + token + ", " + right + ", " + argument + ")";
        Expect.fails(call, Expect.DENIED, () -> x.request(subject, token, right, argument));
        Expect.same("the report of " + call, report, Expect.reported(x));
    }

    private static void allowed(CapabilityStore x, int subject, int token, int right, int argument, int due) {
        String call = "request(" + subject + ", " + token + ", " + right + ", " + argument + ")";
        Expect.is(call, due, () -> x.request(subject, token, right, argument));
    }

    // ---- caveats ----

    /** "it holds if the right that is asked for is in r": each right with each set. */
    private static void setsOfRights() {
        for (int set = 0; set <= 15; set++) {
            CapabilityStore x = rooted();
            Expect.derive(x, 0, 0, "r" + set);
            for (int right : new int[] {1, 2, 8}) {
                if ((set & right) != 0) {
                    allowed(x, 0, 1, right, 0, right == 8 ? 1 : 0);
                } else {
                    denied(x, 0, 1, right, 0, "4:1 10:0 20:" + right);
                }
            }
            if ((set & 4) != 0) {
                Expect.is("give with " + set, 2, () -> x.give(0, 1, 1));
            } else {
                Expect.fails("give with " + set, Expect.DENIED, () -> x.give(0, 1, 1));
                Expect.same("its report", "4:1 10:0 20:4", Expect.reported(x));
            }
        }
    }

    /** "it holds if the present time is less than t". */
    private static void times() {
        CapabilityStore x = rooted();
        Expect.derive(x, 0, 0, "t0");
        Expect.derive(x, 0, 0, "t1");
        Expect.derive(x, 0, 0, "t999");
        denied(x, 0, 1, 1, 0, "4:1 11:0 20:0");
        allowed(x, 0, 2, 1, 0, 0);
        x.pass(1);
        denied(x, 0, 2, 1, 0, "4:2 11:0 20:1");
        for (int i = 0; i < 9; i++) {
            x.pass(100);
        }
        x.pass(97);
        Expect.is("the time", 998, () -> x.count(1));
        allowed(x, 0, 3, 1, 0, 0);
        x.pass(1);
        denied(x, 0, 3, 1, 0, "4:3 11:0 20:999");
        x.pass(1);
        denied(x, 0, 3, 1, 0, "4:3 11:0 20:1000");
    }

    /** "it holds if the asking subject is s". */
    private static void subjects() {
        for (int s = 0; s < 6; s++) {
            CapabilityStore x = rooted();
            Expect.derive(x, 0, 0, "t9;s" + s);
            x.makePair(0);
            x.seal(0, 0, 1);
            for (int other = 0; other < 6; other++) {
                // Through a box, as not everybody may give it.
                x.giveBox(0, other, 0);
                x.givePair(0, other, 0, true);
                x.unseal(other, 0);
                if (other == s) {
                    allowed(x, other, 1, 1, 0, 0);
                } else {
                    denied(x, other, 1, 1, 0, "4:1 12:1 20:" + other);
                }
            }
        }
    }

    /** "it holds if the number of uses of the token that has the caveat is less than n". */
    private static void uses() {
        CapabilityStore x = rooted();
        Expect.derive(x, 0, 0, "n0");
        Expect.derive(x, 0, 0, "n1");
        Expect.derive(x, 0, 0, "n3");
        Expect.derive(x, 0, 3, "r15");
        denied(x, 0, 1, 1, 0, "4:1 13:0 20:0");
        allowed(x, 0, 2, 1, 0, 0);
        denied(x, 0, 2, 1, 0, "4:2 13:0 20:1");
        allowed(x, 0, 3, 1, 0, 0);
        allowed(x, 0, 4, 1, 0, 0);
        allowed(x, 0, 3, 1, 0, 0);
        denied(x, 0, 3, 1, 0, "4:3 13:0 20:3");
        denied(x, 0, 4, 1, 0, "4:3 13:0 20:3");
        Expect.is("uses of the lower one", 1, () -> x.token(4, 3));
        Expect.derive(x, 0, 0, "n5");
        Expect.is("uses of the root are no uses of this one", 0, () -> x.request(0, 5, 1, 0));
        CapabilityStore y = rooted();
        Expect.derive(y, 0, 0, "n400");
        for (int i = 0; i < 400; i++) {
            y.request(0, 1, 8, 0);
        }
        denied(y, 0, 1, 8, 0, "4:1 13:0 20:400");
        Expect.is("calls", 400, () -> y.object(7, 1));
    }

    /** "it holds if the argument is at least a and at most b". */
    private static void ranges() {
        CapabilityStore x = rooted();
        Expect.derive(x, 0, 0, "a3-5");
        Expect.derive(x, 0, 0, "a0-0");
        Expect.derive(x, 0, 0, "a0-999");
        denied(x, 0, 1, 1, 2, "4:1 14:0 20:2");
        allowed(x, 0, 1, 1, 3, 0);
        allowed(x, 0, 1, 1, 4, 0);
        allowed(x, 0, 1, 1, 5, 0);
        denied(x, 0, 1, 1, 6, "4:1 14:0 20:6");
        denied(x, 0, 2, 1, -1, "4:2 14:0 20:-1");
        allowed(x, 0, 2, 1, 0, 0);
        denied(x, 0, 2, 1, 1, "4:2 14:0 20:1");
        denied(x, 0, 3, 1, -1, "4:3 14:0 20:-1");
        allowed(x, 0, 3, 1, 0, 0);
        allowed(x, 0, 3, 1, 999, 0);
        denied(x, 0, 3, 1, 1000, "4:3 14:0 20:1000");
        denied(x, 0, 3, 1, Integer.MAX_VALUE, "4:3 14:0 20:2147483647");
        denied(x, 0, 3, 1, Integer.MIN_VALUE, "4:3 14:0 20:-2147483648");
        allowed(x, 0, 0, 1, Integer.MIN_VALUE, 0);
        allowed(x, 0, 0, 2, Integer.MIN_VALUE, 0);
        allowed(x, 0, 0, 2, Integer.MAX_VALUE, Integer.MIN_VALUE);
    }

    /** "A caveat of kind 4 counts for the argument of each right, also of one for which the argument has no effect." */
    private static void rangesCountForEachRight() {
        for (int right : new int[] {1, 2, 8}) {
            CapabilityStore x = rooted();
            Expect.derive(x, 0, 0, "a1-9");
            denied(x, 0, 1, right, 0, "4:1 14:0 20:0");
            denied(x, 0, 1, right, 10, "4:1 14:0 20:10");
            allowed(x, 0, 1, right, 1, right == 8 ? 1 : 0);
            allowed(x, 0, 1, right, 9, right == 8 ? 2 : right == 2 ? 1 : 0);
            Expect.fails("grant, with the argument 0", Expect.DENIED, () -> x.give(0, 1, 1));
        }
    }

    // ---- checking ----

    /** "This is denied if the subject does not hold the token. Otherwise, the tokens of its chain are looked at". */
    private static void notHeldCountsFirst() {
        CapabilityStore x = rooted();
        Expect.derive(x, 0, 0, "r0;t0");
        x.revoke(0, 0);
        denied(x, 1, 1, 1, 0, "1:1");
        denied(x, 1, 0, 1, 0, "1:0");
        denied(x, 0, 1, 1, 0, "2:0 3:0");
        x.drop(0, 1);
        denied(x, 0, 1, 1, 0, "1:1");
        CapabilityStore y = rooted();
        Expect.derive(y, 0, 0, "r15");
        y.drop(0, 0);
        allowed(y, 0, 1, 1, 0, 0);
        y.drop(0, 1);
        denied(y, 0, 1, 1, 0, "1:1");
        CapabilityStore z = rooted();
        Expect.derive(z, 0, 0, "r15");
        z.drop(0, 1);
        denied(z, 0, 1, 1, 0, "1:1");
    }

    /** "the tokens of its chain are looked at, beginning with the root": each of seven has a reason. */
    private static void theRootIsLookedAtFirst() {
        CapabilityStore x = new CapabilityStore();
        x.mint(0, 7, 13);
        String[] texts = {"t5", "s1", "n1", "a4-9", "r5", "t6"};
        for (int t = 0; t < 6; t++) {
            Expect.derive(x, 0, t, texts[t]);
        }
        denied(x, 0, 6, 2, 3, "4:0 10:0 20:2");
        denied(x, 0, 6, 8, 3, "4:2 12:0 20:0");
        x.pass(6);
        denied(x, 0, 6, 8, 3, "4:1 11:0 20:6");
        denied(x, 0, 6, 2, 3, "4:0 10:0 20:2");
        CapabilityStore y = rooted();
        for (int t = 0; t < 6; t++) {
            Expect.derive(y, 0, t, texts[5 - t]);
        }
        denied(y, 0, 6, 8, 3, "4:2 10:0 20:8");
        denied(y, 0, 6, 1, 3, "4:3 14:0 20:3");
        denied(y, 0, 6, 1, 4, "4:5 12:0 20:0");
        y.request(0, 4, 1, 4);
        denied(y, 0, 6, 1, 4, "4:4 13:0 20:1");
        y.pass(5);
        denied(y, 0, 6, 1, 3, "4:3 14:0 20:3");
        denied(y, 0, 5, 1, 4, "4:4 13:0 20:1");
        y.pass(1);
        denied(y, 0, 6, 8, 3, "4:1 11:0 20:6");
        y.revoke(0, 6);
        denied(y, 0, 6, 8, 3, "4:1 11:0 20:6");
        y.revoke(0, 1);
        denied(y, 0, 6, 8, 3, "2:1 3:0");
    }

    /** "if one of its caveats, in their order, does not hold". */
    private static void caveatsInTheirOrder() {
        CapabilityStore x = rooted();
        Expect.derive(x, 0, 0, "a1-2;n0;s1;t0");
        Expect.derive(x, 0, 0, "t0;s1;n0;a1-2");
        Expect.derive(x, 0, 0, "r15;r7;r3;r1");
        Expect.derive(x, 0, 0, "a0-9;a0-6;a0-3;a0-1");
        denied(x, 0, 1, 1, 0, "4:1 14:0 20:0");
        denied(x, 0, 1, 1, 1, "4:1 13:1 20:0");
        denied(x, 0, 2, 1, 0, "4:2 11:0 20:0");
        denied(x, 0, 3, 8, 0, "4:3 10:1 20:8");
        denied(x, 0, 3, 2, 0, "4:3 10:3 20:2");
        allowed(x, 0, 3, 1, 0, 0);
        denied(x, 0, 4, 1, 10, "4:4 14:0 20:10");
        denied(x, 0, 4, 1, 7, "4:4 14:1 20:7");
        denied(x, 0, 4, 1, 4, "4:4 14:2 20:4");
        denied(x, 0, 4, 1, 2, "4:4 14:3 20:2");
        allowed(x, 0, 4, 1, 1, 0);
    }

    /** "of one token, it is noticed first whether it is revoked, and the first of all these reasons counts". */
    private static void revokedIsNoticedFirst() {
        CapabilityStore x = rooted();
        Expect.derive(x, 0, 0, "r1;t0");
        Expect.derive(x, 0, 1, "s3");
        denied(x, 0, 1, 2, 0, "4:1 10:0 20:2");
        x.revoke(0, 1);
        denied(x, 0, 1, 2, 0, "2:1 3:0");
        denied(x, 0, 2, 2, 0, "2:1 3:0");
        CapabilityStore y = new CapabilityStore();
        y.mint(0, 7, 1);
        Expect.derive(y, 0, 0, "r15");
        y.revoke(0, 1);
        denied(y, 0, 1, 8, 0, "4:0 10:0 20:8");
        denied(y, 0, 1, 1, 0, "2:1 3:0");
        y.revoke(0, 0);
        denied(y, 0, 1, 8, 0, "2:0 3:0");
    }

    /** Only the chain counts: not what is derived from the token, and not what stands beside it. */
    private static void lowerOnesDoNotCount() {
        CapabilityStore x = rooted();
        Expect.derive(x, 0, 0, "r15");
        Expect.derive(x, 0, 1, "r0");
        Expect.derive(x, 0, 0, "r0");
        x.revoke(0, 2);
        x.revoke(0, 3);
        allowed(x, 0, 1, 2, 5, 0);
        allowed(x, 0, 0, 1, 0, 5);
    }

    // ---- promise 17 ----

    /** "the number of uses of all tokens of the chain increases by 1": of these alone. */
    private static void usesOfTheChain() {
        CapabilityStore x = rooted();
        for (int parent : new int[] {0, 1, 1, 0}) {
            Expect.derive(x, 0, parent, "r15");
        }
        x.mint(0, 7, 15);
        allowed(x, 0, 2, 1, 0, 0);
        allowed(x, 0, 2, 8, 0, 1);
        allowed(x, 0, 1, 2, 4, 0);
        allowed(x, 0, 4, 1, 0, 4);
        int[] due = {4, 3, 2, 0, 1, 0};
        for (int t = 0; t < 6; t++) {
            int token = t;
            Expect.is("uses of " + t, due[t], () -> x.token(token, 3));
        }
    }

    /** "read changes nothing, write makes the argument the content, call increases the number of calls by 1". */
    private static void whatTheObjectDoes() {
        CapabilityStore x = rooted();
        int[] arguments = {1, 0, -1, Integer.MAX_VALUE, Integer.MIN_VALUE, 1000};
        int before = 0;
        for (int argument : arguments) {
            allowed(x, 0, 0, 2, argument, before);
            allowed(x, 0, 0, 1, 5, argument);
            Expect.is("the content", argument, () -> x.object(7, 0));
            before = argument;
        }
        Expect.is("writing and reading are no calls", 0, () -> x.object(7, 1));
        allowed(x, 0, 0, 8, 99, 1);
        allowed(x, 0, 0, 8, 98, 2);
        Expect.is("calling leaves the content", 1000, () -> x.object(7, 0));
        x.mint(1, 7, 15);
        allowed(x, 1, 1, 8, 0, 3);
        allowed(x, 1, 1, 1, 0, 1000);
        Expect.is("another object", 0, () -> x.object(6, 0) + x.object(6, 1) + x.object(8, 0) + x.object(8, 1));
    }

    private static void deniedDoesNothing() {
        CapabilityStore x = new CapabilityStore();
        x.mint(0, 7, 0);
        for (int right : new int[] {1, 2, 8}) {
            denied(x, 0, 0, right, 42, "4:0 10:0 20:" + right);
            denied(x, 1, 0, right, 42, "1:0");
        }
        Expect.is("content", 0, () -> x.object(7, 0));
        Expect.is("calls", 0, () -> x.object(7, 1));
        Expect.is("uses", 0, () -> x.token(0, 3));
        Expect.is("entries", 6, () -> x.count(6));
        Expect.is("denied", 6, () -> x.count(5));
        Expect.is("allowed", 0, () -> x.count(4));
    }

    // ---- reports ----

    /** "level 1 has code 10 plus the kind of the caveat and the number of the caveat, level 2 has code 20 and ..". */
    private static void reportsOfEachKind() {
        String[] texts = {"r7", "t3", "s2", "n2", "a5-6"};
        int[] seen = {8, 3, 0, 2, 7};
        for (int kind = 0; kind <= 4; kind++) {
            for (int number = 0; number <= 3; number++) {
                CapabilityStore x = rooted();
                x.mint(0, 7, 15);
                Expect.derive(x, 0, 1, "r15;r15;r15;".substring(0, 4 * number) + texts[kind]);
                if (kind == 3) {
                    allowed(x, 0, 2, 8, 7, 1);
                    allowed(x, 0, 2, 8, 7, 2);
                }
                x.pass(3);
                denied(x, 0, 2, 8, 7, "4:2 1" + kind + ":" + number + " 20:" + seen[kind]);
            }
        }
    }

    /** The greatest and the least that a report can tell. */
    private static void reportsAtTheEnds() {
        CapabilityStore x = new CapabilityStore();
        for (int t = 0; t < 27; t++) {
            x.mint(5, 7, 15);
        }
        Expect.derive(x, 5, 26, "r15;r15;r15;s4");
        denied(x, 5, 27, 1, 0, "4:27 12:3 20:5");
        denied(x, 4, 27, 1, 0, "1:27");
        x.revoke(5, 27);
        denied(x, 5, 27, 1, 0, "2:27 3:5");
        x.revoke(5, 0);
        denied(x, 5, 0, 1, 0, "2:0 3:5");
        denied(x, 0, 0, 1, 0, "1:0");
        for (int p = 0; p < 4; p++) {
            x.makePair(5);
        }
        for (int b = 0; b < 12; b++) {
            x.seal(5, b / 3, 26);
        }
        Expect.fails("the last box", Expect.DENIED, () -> x.unseal(0, 11));
        Expect.same("its report", "6:11", Expect.reported(x));
        x.giveBox(5, 0, 11);
        Expect.fails("the last pair", Expect.DENIED, () -> x.unseal(0, 11));
        Expect.same("its report", "5:3", Expect.reported(x));
        Expect.fails("the first pair", Expect.DENIED, () -> x.givePair(0, 0, 0, false));
        Expect.same("its report", "5:0", Expect.reported(x));
    }

    /** Every method that is denied leaves its report: "as for a token that is not held", and as the checking says. */
    private static void reportsOfOthers() {
        CapabilityStore x = new CapabilityStore();
        x.mint(0, 7, 14);
        x.mint(1, 7, 15);
        x.makePair(0);
        x.seal(0, 0, 0);
        String[] names = {"derive", "give", "revoke", "givePair", "seal, pair", "seal, token", "giveBox", "unseal"};
        Expect.Call[] calls = {
            () -> x.derive(0, 1), () -> x.give(0, 1, 1), () -> x.revoke(0, 1), () -> x.givePair(1, 0, 0, true),
            () -> x.seal(1, 0, 1), () -> x.seal(0, 0, 1), () -> x.giveBox(1, 0, 0), () -> x.unseal(1, 0),
        };
        String[] due = {"1:1", "1:1", "1:1", "5:0", "5:0", "1:1", "6:0", "6:0"};
        for (int i = 0; i < calls.length; i++) {
            denied(x, 0, 0, 1, 0, "4:0 10:0 20:1");
            Expect.fails(names[i], Expect.DENIED, calls[i]);
            Expect.same("the report of " + names[i], due[i], Expect.reported(x));
        }
        Expect.is("only requests are logged", calls.length, () -> x.count(6));
    }

    /** "A denial leaves a report, which replaces the earlier one": longer and shorter ones. */
    private static void reportsReplace() {
        CapabilityStore x = rooted();
        Expect.derive(x, 0, 0, "r1");
        Expect.derive(x, 0, 0, "r15");
        x.revoke(0, 2);
        denied(x, 0, 1, 8, 0, "4:1 10:0 20:8");
        Expect.is("levels", 3, x::levels);
        denied(x, 0, 2, 1, 0, "2:2 3:0");
        Expect.is("levels", 2, x::levels);
        Expect.fails("no third level", Expect.ELEMENT, () -> x.report(2, 0));
        denied(x, 1, 2, 1, 0, "1:2");
        Expect.is("levels", 1, x::levels);
        Expect.fails("no second level", Expect.ELEMENT, () -> x.report(1, 0));
        denied(x, 0, 1, 2, 0, "4:1 10:0 20:2");
        Expect.is("levels", 3, x::levels);
        Expect.is("the last detail", 2, () -> x.report(2, 1));
        Expect.fails("no fourth level", Expect.ELEMENT, () -> x.report(3, 0));
        Expect.fails("no level before the first", Expect.ELEMENT, () -> x.report(-1, 0));
        Expect.fails("no what after 1", Expect.ARGUMENT, () -> x.report(0, 2));
        Expect.fails("no what before 0", Expect.ARGUMENT, () -> x.report(0, -1));
    }

    /** What is no denial leaves the report, with all other exceptions, too. */
    private static void reportsStay() {
        CapabilityStore x = rooted();
        Expect.is("no levels at first", 0, x::levels);
        Expect.fails("no level at first", Expect.ELEMENT, () -> x.report(0, 0));
        Expect.outcome(() -> x.mint(6, 0, 0));
        Expect.outcome(() -> x.drop(1, 0));
        Expect.is("no levels without a denial", 0, x::levels);
        denied(x, 1, 0, 1, 0, "1:0");
        allowed(x, 0, 0, 1, 0, 0);
        x.give(0, 1, 0);
        Expect.derive(x, 0, 0, "r1");
        x.revoke(0, 1);
        Expect.outcome(() -> Expect.derive(x, 0, 0, "x"));
        Expect.outcome(() -> x.drop(3, 0));
        Expect.outcome(() -> x.request(0, 0, 4, 0));
        Expect.outcome(() -> x.request(0, 9, 1, 0));
        x.pass(1);
        x.save();
        x.restore();
        Expect.same("the report stays", "1:0", Expect.reported(x));
    }
}
