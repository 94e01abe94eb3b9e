/** The sentences about pairs and boxes that name a boundary; promises 25 to 30. */
public final class BoxEdgeTest {
    public static void main(String[] args) {
        atMostFourPairs();
        bothPartsAreHeldByTheMaker();
        partsAreGivenApart();
        givePairAnswersAll();
        pairsAreApart();
        sealNeedsTheSealer();
        sealNeedsTheToken();
        sealAsksForNothingElse();
        atMostTwelveBoxes();
        boxesAreHeldByTheMaker();
        giveBoxAnswersAll();
        unsealNeedsBoth();
        unsealEachBox();
        unsealLetsItBeHeld();
        theBoxStays();
        nothingIsAskedForOrLogged();
        Expect.finish();
    }

    private static CapabilityStore paired() {
        CapabilityStore x = new CapabilityStore();
        x.mint(0, 7, 15);
        x.makePair(0);
        return x;
    }

    private static void denied(CapabilityStore x, String call, String report, Expect.Call made) {
        Expect.fails(call, Expect.DENIED, made);
        Expect.same("the report of " + call, report, Expect.reported(x));
    }

    /** "There are at most 4 pairs, numbered from 0". */
    private static void atMostFourPairs() {
        CapabilityStore x = new CapabilityStore();
        Expect.fails("a pair before the first", Expect.INDEX, () -> x.givePair(0, 0, 0, false));
        for (int p = 0; p < 4; p++) {
            int pair = p;
            Expect.is("makePair", p, () -> x.makePair(0));
            Expect.is("pairs", p + 1, () -> x.count(2));
            Expect.is("its sealer", 3, () -> x.givePair(0, 1, pair, false));
            Expect.fails("the next pair", Expect.INDEX, () -> x.givePair(0, 0, pair + 1, false));
        }
        Expect.fails("a fifth", Expect.STATE, () -> x.makePair(0));
        Expect.fails("a fifth for the last subject", Expect.STATE, () -> x.makePair(5));
        Expect.fails("a fifth for no subject", Expect.INDEX, () -> x.makePair(6));
        Expect.is("pairs", 4, () -> x.count(2));
    }

    /** "Makes a pair, whose sealer and unsealer are held by a subject." */
    private static void bothPartsAreHeldByTheMaker() {
        for (int s = 0; s < 6; s++) {
            CapabilityStore x = new CapabilityStore();
            int maker = s;
            Expect.is("makePair", 0, () -> x.makePair(maker));
            Expect.is("the sealer", 1 << s, () -> x.givePair(maker, maker, 0, false));
            Expect.is("the unsealer", 1 << s, () -> x.givePair(maker, maker, 0, true));
            for (int other = 0; other < 6; other++) {
                int subject = other;
                if (other != s) {
                    denied(x, "the sealer of another", "5:0", () -> x.givePair(subject, maker, 0, false));
                    denied(x, "the unsealer of another", "5:0", () -> x.givePair(subject, maker, 0, true));
                }
            }
        }
    }

    /** "true for the unsealer, false for the sealer". */
    private static void partsAreGivenApart() {
        CapabilityStore x = paired();
        Expect.is("the sealer", 1 | 2, () -> x.givePair(0, 1, 0, false));
        denied(x, "the unsealer by one with the sealer", "5:0", () -> x.givePair(1, 2, 0, true));
        Expect.is("the unsealer", 1 | 4, () -> x.givePair(0, 2, 0, true));
        denied(x, "the sealer by one with the unsealer", "5:0", () -> x.givePair(2, 1, 0, false));
        denied(x, "the sealer to itself", "5:0", () -> x.givePair(2, 2, 0, false));
        Expect.is("the sealer on", 1 | 2 | 8, () -> x.givePair(1, 3, 0, false));
        Expect.is("the unsealer on", 1 | 4 | 8, () -> x.givePair(2, 3, 0, true));
    }

    /** "Returns the set of subjects that hold it then": up to all of them, each once. */
    private static void givePairAnswersAll() {
        for (boolean unsealer : new boolean[] {false, true}) {
            CapabilityStore x = paired();
            int set = 1;
            for (int s = 1; s < 6; s++) {
                int to = s;
                set |= 1 << s;
                Expect.is("to " + s, set, () -> x.givePair(to - 1, to, 0, unsealer));
                Expect.is("to " + s + " again", set, () -> x.givePair(0, to, 0, unsealer));
            }
            Expect.is("to itself", 63, () -> x.givePair(5, 5, 0, unsealer));
            Expect.is("the other part", 1, () -> x.givePair(0, 0, 0, !unsealer));
        }
    }

    private static void pairsAreApart() {
        CapabilityStore x = new CapabilityStore();
        for (int p = 0; p < 4; p++) {
            x.makePair(p);
        }
        for (int p = 0; p < 4; p++) {
            for (int s = 0; s < 4; s++) {
                int pair = p;
                int subject = s;
                if (p == s) {
                    Expect.is("its own", 1 << s | 32, () -> x.givePair(subject, 5, pair, true));
                } else {
                    denied(x, "another one's", "5:" + p, () -> x.givePair(subject, 5, pair, true));
                }
            }
        }
    }

    /** "if the subject does not hold the sealer, or does not hold the token": the sealer first. */
    private static void sealNeedsTheSealer() {
        CapabilityStore x = paired();
        x.makePair(1);
        x.give(0, 1, 0);
        denied(x, "the sealer of another pair", "5:0", () -> x.seal(1, 0, 0));
        x.givePair(0, 1, 0, true);
        denied(x, "the unsealer alone", "5:0", () -> x.seal(1, 0, 0));
        Expect.is("no box", 0, () -> x.count(3));
        x.givePair(0, 1, 0, false);
        Expect.is("with the sealer", 0, () -> x.seal(1, 0, 0));
        denied(x, "neither sealer nor token", "5:1", () -> x.seal(2, 1, 0));
    }

    private static void sealNeedsTheToken() {
        CapabilityStore x = paired();
        Expect.derive(x, 0, 0, "r15");
        x.mint(1, 7, 15);
        denied(x, "a token of another", "1:2", () -> x.seal(0, 0, 2));
        x.drop(0, 0);
        denied(x, "a token that is dropped", "1:0", () -> x.seal(0, 0, 0));
        Expect.is("the one below it", 0, () -> x.seal(0, 0, 1));
        Expect.is("no other box", 1, () -> x.count(3));
        x.drop(0, 1);
        Expect.is("it comes out of the box", 1, () -> x.unseal(0, 0));
    }

    /** "deriving and sealing ask for nothing but holding". */
    private static void sealAsksForNothingElse() {
        CapabilityStore x = new CapabilityStore();
        x.makePair(0);
        x.mint(0, 7, 0);
        Expect.derive(x, 0, 0, "t0;s5;n0;a1-1");
        Expect.is("a token without rights", 0, () -> x.seal(0, 0, 0));
        Expect.is("a token that allows nothing", 1, () -> x.seal(0, 0, 1));
        x.revoke(0, 0);
        Expect.is("a revoked token", 2, () -> x.seal(0, 0, 0));
        Expect.is("a token revoked above", 3, () -> x.seal(0, 0, 1));
        Expect.is("the sealing one still holds them", 3, () -> x.held(0));
    }

    /** "There are at most 12 boxes, numbered from 0". */
    private static void atMostTwelveBoxes() {
        CapabilityStore x = paired();
        x.mint(1, 7, 15);
        for (int b = 0; b < 12; b++) {
            int box = b;
            Expect.fails("the next box", Expect.INDEX, () -> x.pairOf(box));
            Expect.is("seal", b, () -> x.seal(0, 0, 0));
            Expect.is("boxes", b + 1, () -> x.count(3));
            Expect.is("its pair", 0, () -> x.pairOf(box));
        }
        Expect.fails("a 13th", Expect.STATE, () -> x.seal(0, 0, 0));
        denied(x, "a 13th without the sealer", "5:0", () -> x.seal(1, 0, 1));
        denied(x, "a 13th without the token", "1:1", () -> x.seal(0, 0, 1));
        Expect.fails("a 13th of no token", Expect.INDEX, () -> x.seal(0, 0, 2));
        Expect.is("boxes", 12, () -> x.count(3));
        Expect.fails("no 13th", Expect.INDEX, () -> x.pairOf(12));
        Expect.is("giving the last", 33, () -> x.giveBox(0, 5, 11));
        x.givePair(0, 5, 0, true);
        Expect.is("opening the last", 0, () -> x.unseal(5, 11));
        denied(x, "opening another", "6:10", () -> x.unseal(5, 10));
    }

    /** "Makes a box that contains a token and is held by a subject." */
    private static void boxesAreHeldByTheMaker() {
        CapabilityStore x = paired();
        x.mint(5, 7, 15);
        x.givePair(0, 5, 0, false);
        x.seal(5, 0, 1);
        Expect.is("held by the maker", 32, () -> x.giveBox(5, 5, 0));
        for (int s = 0; s < 5; s++) {
            int subject = s;
            denied(x, "held by no other", "6:0", () -> x.giveBox(subject, subject, 0));
        }
        denied(x, "the maker has no unsealer", "5:0", () -> x.unseal(5, 0));
    }

    private static void giveBoxAnswersAll() {
        CapabilityStore x = paired();
        x.seal(0, 0, 0);
        x.seal(0, 0, 0);
        int set = 1;
        for (int s = 1; s < 6; s++) {
            int to = s;
            set |= 1 << s;
            Expect.is("to " + s, set, () -> x.giveBox(to - 1, to, 0));
            Expect.is("to " + s + " again", set, () -> x.giveBox(0, to, 0));
        }
        Expect.is("to itself", 63, () -> x.giveBox(5, 5, 0));
        Expect.is("the other box", 1, () -> x.giveBox(0, 0, 1));
        denied(x, "the other box by another", "6:1", () -> x.giveBox(5, 4, 1));
    }

    /** "if the subject does not hold the box, or does not hold the unsealer of its pair": the box first. */
    private static void unsealNeedsBoth() {
        CapabilityStore x = paired();
        x.makePair(1);
        x.seal(0, 0, 0);
        denied(x, "neither", "6:0", () -> x.unseal(1, 0));
        x.giveBox(0, 1, 0);
        denied(x, "the unsealer of another pair", "5:0", () -> x.unseal(1, 0));
        x.givePair(0, 1, 0, false);
        denied(x, "the sealer", "5:0", () -> x.unseal(1, 0));
        Expect.is("nothing is held", 0, () -> x.held(1));
        x.givePair(0, 2, 0, true);
        denied(x, "the unsealer without the box", "6:0", () -> x.unseal(2, 0));
        x.givePair(0, 1, 0, true);
        Expect.is("both", 0, () -> x.unseal(1, 0));
        Expect.is("held then", 1, () -> x.held(1));
    }

    /** Boxes keep their own pairs and tokens. */
    private static void unsealEachBox() {
        CapabilityStore x = new CapabilityStore();
        for (int t = 0; t < 12; t++) {
            x.mint(0, t, 15);
        }
        for (int p = 0; p < 4; p++) {
            x.makePair(0);
        }
        for (int b = 0; b < 12; b++) {
            x.seal(0, b % 4, 11 - b);
            x.giveBox(0, 1, b);
        }
        x.givePair(0, 1, 2, true);
        for (int b = 0; b < 12; b++) {
            int box = b;
            Expect.is("pairOf(" + b + ")", b % 4, () -> x.pairOf(box));
            if (b % 4 == 2) {
                Expect.is("unseal", 11 - b, () -> x.unseal(1, box));
            } else {
                denied(x, "unseal", "5:" + b % 4, () -> x.unseal(1, box));
            }
        }
        Expect.is("held then", 1 << 9 | 1 << 5 | 1 << 1, () -> x.held(1));
    }

    /** "the subject holds the token in it then", whether or not somebody else does. */
    private static void unsealLetsItBeHeld() {
        CapabilityStore x = paired();
        x.seal(0, 0, 0);
        Expect.is("one that holds it already", 0, () -> x.unseal(0, 0));
        Expect.is("holders", 1, () -> x.holders(0));
        x.drop(0, 0);
        Expect.is("nobody holds it", 0, () -> x.holders(0));
        x.giveBox(0, 5, 0);
        x.givePair(0, 5, 0, true);
        Expect.is("out of the box", 0, () -> x.unseal(5, 0));
        Expect.is("holders", 32, () -> x.holders(0));
        Expect.is("it can be used", 0, () -> x.request(5, 0, 1, 0));
        Expect.is("by another one, too", 0, () -> x.unseal(0, 0));
        Expect.is("both hold it", 33, () -> x.holders(0));
        x.drop(0, 0);
        x.revoke(5, 0);
        x.drop(5, 0);
        Expect.is("a revoked one", 0, () -> x.unseal(0, 0));
        Expect.is("holders", 1, () -> x.holders(0));
        Expect.fails("it is still revoked", Expect.DENIED, () -> x.request(0, 0, 1, 0));
    }

    /** "The box stays." */
    private static void theBoxStays() {
        CapabilityStore x = paired();
        x.seal(0, 0, 0);
        x.giveBox(0, 4, 0);
        for (int i = 0; i < 3; i++) {
            Expect.is("unseal", 0, () -> x.unseal(0, 0));
        }
        Expect.is("boxes", 1, () -> x.count(3));
        Expect.is("its holders", 17, () -> x.giveBox(0, 0, 0));
        Expect.is("its pair", 0, () -> x.pairOf(0));
    }

    private static void nothingIsAskedForOrLogged() {
        CapabilityStore x = new CapabilityStore();
        x.mint(0, 7, 0);
        x.makePair(0);
        x.seal(0, 0, 0);
        x.giveBox(0, 1, 0);
        x.givePair(0, 1, 0, true);
        x.unseal(1, 0);
        Expect.outcome(() -> x.unseal(2, 0));
        Expect.outcome(() -> x.seal(2, 0, 0));
        Expect.outcome(() -> x.giveBox(2, 0, 0));
        Expect.outcome(() -> x.givePair(2, 0, 0, false));
        Expect.is("a token without rights comes out", 1, () -> x.held(1));
        Expect.is("entries", 0, () -> x.count(6));
        Expect.is("allowed and denied", 0, () -> x.count(4) + x.count(5));
        Expect.is("uses", 0, () -> x.token(0, 3));
    }
}
