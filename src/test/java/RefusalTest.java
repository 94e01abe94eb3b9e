/**
 * "A method that throws an exception leaves the state unchanged, unless its description says otherwise. If several
 * exceptions are possible, the one listed first in the description of the method is thrown." For each method: each
 * of its exceptions, just outside of what is allowed and far off; wherever two are possible, the first; and which
 * parts of all that can be seen are changed by it.
 */
public final class RefusalTest {
    private static final int LEAST = Integer.MIN_VALUE;
    private static final int MOST = Integer.MAX_VALUE;
    private static final int[] NO_SUBJECT = {-1, 6, 32, MOST, LEAST};
    private static final int[] NO_OBJECT = {-1, 12, 32, MOST, LEAST};
    private static final int[] NO_BUSY_TOKEN = {-1, 5, 28, 32, MOST, LEAST};
    private static final int[] NO_FULL_TOKEN = {-1, 28, 32, MOST, LEAST};
    private static final int[] NO_BUSY_PAIR = {-1, 2, 4, 32, MOST, LEAST};
    private static final int[] NO_BUSY_BOX = {-1, 2, 12, 32, MOST, LEAST};

    private static final Look.Maker EMPTY = CapabilityStore::new;
    private static final Look.Maker BUSY = RefusalTest::busy;
    private static final Look.Maker BUSY_WRONG = () -> with(busy(), "x");
    private static final Look.Maker LONG = RefusalTest::longChain;
    private static final Look.Maker LONG_WRONG = () -> with(longChain(), "x");
    private static final Look.Maker FULL = RefusalTest::full;
    private static final Look.Maker FULL_WRONG = () -> with(full(), "x");
    private static final Look.Maker FULL_BUFFER = () -> with(busy(), "abcdefghijklmnopqrstuvwxyzabcdefghi");

    public static void main(String[] args) {
        makersAreAsTheTestsNeed();
        mint();
        append();
        deriveIndex();
        deriveOthers();
        give();
        drop();
        revoke();
        looksAtTokens();
        looksAtHolders();
        request();
        objectsTimeAndLog();
        pairs();
        sealing();
        boxes();
        reach();
        countAndRestore();
        looksChangeNothing();
        Expect.finish();
    }

    // ---- the stores that refuse ----

    /** Something of everything, another state saved, a text in the buffer, an error at 3, a report of 3 levels. */
    static CapabilityStore busy() {
        CapabilityStore x = new CapabilityStore();
        x.mint(0, 1, 15);
        x.mint(1, 8, 15);
        Expect.derive(x, 0, 0, "t5;n4");
        x.makePair(2);
        x.request(0, 0, 2, 17);
        x.save();
        Expect.derive(x, 1, 1, "a3-9");
        Expect.derive(x, 1, 3, "r9");
        x.give(0, 3, 0);
        x.revoke(1, 4);
        x.request(0, 2, 2, 31);
        x.request(1, 3, 8, 5);
        Expect.outcome(() -> x.request(1, 3, 8, 2));
        x.makePair(0);
        x.givePair(0, 4, 1, true);
        x.givePair(0, 5, 1, false);
        x.seal(0, 1, 0);
        x.seal(0, 1, 2);
        x.giveBox(0, 4, 1);
        x.pass(7);
        Expect.outcome(() -> Expect.derive(x, 0, 0, "r1;"));
        return with(x, "n7;t9");
    }

    /** Tokens 0 to 6 are one chain. */
    private static CapabilityStore longChain() {
        CapabilityStore x = new CapabilityStore();
        x.mint(0, 0, 15);
        for (int t = 0; t < 6; t++) {
            Expect.derive(x, 0, t, "r15");
        }
        Expect.outcome(() -> Expect.derive(x, 0, 6, "t1;"));
        return with(x, "n7;t9");
    }

    /** 28 tokens, of which 7 is the end of a chain of 7, 4 pairs and 12 boxes; and the saved state has room. */
    private static CapabilityStore full() {
        CapabilityStore x = new CapabilityStore();
        x.mint(0, 0, 15);
        x.mint(5, 5, 4);
        x.save();
        Expect.derive(x, 0, 0, "r15");
        for (int t = 2; t < 7; t++) {
            Expect.derive(x, 0, t, "r15");
        }
        for (int t = 8; t < 28; t++) {
            x.mint(t % 6, t % 12, t % 16);
        }
        for (int p = 0; p < 4; p++) {
            x.makePair(0);
        }
        for (int b = 0; b < 12; b++) {
            x.seal(0, b % 4, b % 8 == 1 ? 0 : b % 8);
        }
        for (int i = 0; i < 21; i++) {
            x.request(0, 2, 8, 0);
        }
        Expect.outcome(() -> x.request(4, 0, 1, 0));
        Expect.outcome(() -> Expect.derive(x, 0, 0, ""));
        return with(x, "a100-200;a100-200;a100-200;a100-200");
    }

    private static CapabilityStore with(CapabilityStore x, String text) {
        Expect.put(x, text);
        return x;
    }

    private static void makersAreAsTheTestsNeed() {
        Expect.is("tokens", 5, () -> BUSY.make().count(0));
        Expect.is("pairs", 2, () -> BUSY.make().count(2));
        Expect.is("boxes", 2, () -> BUSY.make().count(3));
        Expect.is("an error position", 3, () -> BUSY.make().errorPosition());
        Expect.same("a report", "4:3 14:0 20:2", Expect.reported(BUSY.make()));
        Expect.is("an expired one", 2, () -> BUSY.make().expired(0));
        Expect.is("a chain of seven", 7, () -> LONG.make().token(6, 4));
        Expect.is("28 tokens", 28, () -> FULL.make().count(0));
        Expect.is("a chain of seven", 7, () -> FULL.make().token(7, 4));
        Expect.is("4 pairs", 4, () -> FULL.make().count(2));
        Expect.is("12 boxes", 12, () -> FULL.make().count(3));
        Expect.is("20 entries", 20, () -> FULL.make().count(6));
        Expect.is("a full buffer", 40, () -> FULL_BUFFER.make().count(7));
        Expect.same("a call that changes nothing", "", Look.changed(BUSY, Look.after(BUSY, x -> x.count(0))));
        Expect.same("a call that changes something", "tokens holding objects",
                Look.changed(BUSY, Look.after(BUSY, x -> x.mint(0, 0, 0))));
    }

    // ---- how a refusal is looked at ----

    private static void refused(Class<? extends RuntimeException> due, Look.Maker maker, String call,
            Expect.CallOn made) {
        refusedBut("", due, maker, call, made);
    }

    /** What is named may change, and must. */
    private static void refusedBut(String changed, Class<? extends RuntimeException> due, Look.Maker maker,
            String call, Expect.CallOn made) {
        CapabilityStore x = maker.make();
        Expect.fails(call, due, () -> made.answer(x));
        Expect.same("what is changed by " + call, changed, Look.changed(maker, Look.after(maker, made)));
    }

    /** A refusal that leaves a report, and what else is named. */
    private static void denied(String changed, String report, Look.Maker maker, String call, Expect.CallOn made) {
        refusedBut(changed, Expect.DENIED, maker, call, made);
        CapabilityStore x = maker.make();
        Expect.outcome(() -> made.answer(x));
        Expect.same("the report of " + call, report, Expect.reported(x));
    }

    private static String said(String method, int... arguments) {
        StringBuilder text = new StringBuilder(method);
        String before = "(";
        for (int argument : arguments) {
            text.append(before).append(argument);
            before = ", ";
        }
        return text.append(')').toString();
    }

    // ---- the methods ----

    private static void mint() {
        for (int s : NO_SUBJECT) {
            refused(Expect.INDEX, BUSY, said("mint", s, 0, 15), x -> x.mint(s, 0, 15));
            refused(Expect.INDEX, BUSY, said("mint", s, 0, 16), x -> x.mint(s, 0, 16));
            refused(Expect.INDEX, FULL, said("mint of 29 tokens", s, 0, 16), x -> x.mint(s, 0, 16));
            refused(Expect.INDEX, FULL, said("mint of 29 tokens", s, 0, 15), x -> x.mint(s, 0, 15));
        }
        for (int o : NO_OBJECT) {
            refused(Expect.INDEX, BUSY, said("mint", 0, o, 0), x -> x.mint(0, o, 0));
            refused(Expect.INDEX, BUSY, said("mint", 0, o, -1), x -> x.mint(0, o, -1));
            refused(Expect.INDEX, FULL, said("mint of 29 tokens", 0, o, -1), x -> x.mint(0, o, -1));
        }
        for (int rights : new int[] {-1, 16, 17, 32, MOST, LEAST}) {
            refused(Expect.ARGUMENT, BUSY, said("mint", 0, 0, rights), x -> x.mint(0, 0, rights));
            refused(Expect.ARGUMENT, FULL, said("mint of 29 tokens", 0, 0, rights), x -> x.mint(0, 0, rights));
        }
        refused(Expect.STATE, FULL, "mint of 29 tokens", x -> x.mint(0, 0, 15));
        refused(Expect.STATE, FULL, "mint of 29 tokens", x -> x.mint(5, 11, 0));
    }

    private static void append() {
        for (int sign : new int[] {1, 31, 32, 127, 128, 255}) {
            for (int shift = 0; shift <= 24; shift += 8) {
                int alone = sign << shift;
                int among = Expect.packed("abcd") & ~(255 << shift) | alone;
                refused(Expect.ARGUMENT, BUSY, said("append", alone), x -> x.append(alone));
                refused(Expect.ARGUMENT, BUSY, said("append", among), x -> x.append(among));
                refused(Expect.ARGUMENT, FULL_BUFFER, said("append to 40", among), x -> x.append(among));
            }
        }
        refused(Expect.STATE, FULL_BUFFER, "append of one to 40", x -> x.append('a'));
        refused(Expect.STATE, FULL_BUFFER, "append of one to 40", x -> x.append('~' << 24));
        refused(Expect.STATE, FULL_BUFFER, "append of four to 40", x -> x.append(Expect.packed("abcd")));
        Look.Maker almost = () -> with(busy(), "abcdefghijklmnopqrstuvwxyzabcdef");
        Expect.is("37 characters", 37, () -> almost.make().count(7));
        refused(Expect.STATE, almost, "append of four to 37", x -> x.append(Expect.packed("abcd")));
    }

    private static void deriveIndex() {
        Look.Maker[] makers = {BUSY, BUSY_WRONG, FULL, FULL_WRONG};
        for (Look.Maker maker : makers) {
            for (int s : NO_SUBJECT) {
                refused(Expect.INDEX, maker, said("derive", s, 0), x -> x.derive(s, 0));
                refused(Expect.INDEX, maker, said("derive", s, 28), x -> x.derive(s, 28));
            }
            for (int t : NO_FULL_TOKEN) {
                refused(Expect.INDEX, maker, said("derive", 0, t), x -> x.derive(0, t));
            }
        }
        refused(Expect.INDEX, BUSY, "derive of the next token", x -> x.derive(0, 5));
        refused(Expect.INDEX, EMPTY, "derive of no token", x -> x.derive(0, 0));
        Look.Maker longWrong = LONG_WRONG;
        refused(Expect.INDEX, longWrong, "derive by no subject of a chain of 7", x -> x.derive(6, 6));
    }

    private static void deriveOthers() {
        denied("buffer report", "1:0", BUSY, "derive of one not held", x -> x.derive(2, 0));
        denied("buffer report", "1:0", BUSY_WRONG, "derive of one not held, the text wrong", x -> x.derive(2, 0));
        denied("buffer report", "1:6", LONG, "derive of one not held, the chain full", x -> x.derive(1, 6));
        denied("buffer report", "1:6", LONG_WRONG, "derive of one not held, both", x -> x.derive(1, 6));
        denied("buffer report", "1:1", FULL, "derive of one not held, the 29th", x -> x.derive(0, 1));
        denied("buffer report", "1:1", FULL_WRONG, "derive of one not held, both", x -> x.derive(0, 1));
        refusedBut("buffer error", Expect.ARGUMENT, BUSY_WRONG, "derive with an error", x -> x.derive(0, 0));
        refusedBut("buffer error", Expect.ARGUMENT, LONG_WRONG, "derive with an error, the chain full",
                x -> x.derive(0, 6));
        refusedBut("buffer error", Expect.ARGUMENT, FULL_WRONG, "derive with an error, the 29th",
                x -> x.derive(0, 0));
        refusedBut("buffer error", Expect.STATE, LONG, "derive of the eighth of a chain", x -> x.derive(0, 6));
        refusedBut("buffer error", Expect.STATE, FULL, "derive of the 29th", x -> x.derive(0, 0));
        refusedBut("buffer error", Expect.STATE, FULL, "derive of the 29th and eighth", x -> x.derive(0, 7));
        CapabilityStore x = FULL.make();
        Expect.outcome(() -> x.derive(0, 0));
        Expect.is("the text was read", -1, x::errorPosition);
        CapabilityStore y = BUSY_WRONG.make();
        Expect.outcome(() -> y.derive(0, 0));
        Expect.is("where the error is", 5, y::errorPosition);
    }

    private static void give() {
        for (int s : NO_SUBJECT) {
            refused(Expect.INDEX, BUSY, said("give", s, 0, 0), x -> x.give(s, 0, 0));
            refused(Expect.INDEX, BUSY, said("give", 0, s, 0), x -> x.give(0, s, 0));
            refused(Expect.INDEX, BUSY, said("give by one that may not", 2, s, 0), x -> x.give(2, s, 0));
        }
        for (int t : NO_BUSY_TOKEN) {
            refused(Expect.INDEX, BUSY, said("give", 0, 1, t), x -> x.give(0, 1, t));
        }
        refused(Expect.INDEX, EMPTY, "give of no token", x -> x.give(0, 0, 0));
        denied("report", "1:0", BUSY, "give of one not held", x -> x.give(2, 0, 0));
        denied("report", "1:0", BUSY, "give of one not held to itself", x -> x.give(2, 2, 0));
        denied("report", "4:2 11:0 20:7", BUSY, "give of one out of time", x -> x.give(0, 1, 2));
        denied("report", "4:3 14:0 20:0", BUSY, "give outside of the range", x -> x.give(1, 0, 3));
        denied("report", "4:1 10:0 20:4", Look.after(EMPTY, RefusalTest::mintWithoutGrant), "give without grant",
                x -> x.give(1, 0, 1));
    }

    private static int mintWithoutGrant(CapabilityStore x) {
        x.mint(0, 0, 15);
        return x.mint(1, 1, 11);
    }

    private static void drop() {
        for (int s : NO_SUBJECT) {
            refused(Expect.INDEX, BUSY, said("drop", s, 0), x -> x.drop(s, 0));
            refused(Expect.INDEX, BUSY, said("drop", s, 5), x -> x.drop(s, 5));
        }
        for (int t : NO_BUSY_TOKEN) {
            refused(Expect.INDEX, BUSY, said("drop", 0, t), x -> x.drop(0, t));
        }
        refused(Expect.INDEX, EMPTY, "drop of no token", x -> x.drop(0, 0));
        refused(Expect.ELEMENT, BUSY, "drop of one not held", x -> x.drop(1, 0));
        refused(Expect.ELEMENT, BUSY, "drop of one not held", x -> x.drop(5, 4));
    }

    private static void revoke() {
        for (int s : NO_SUBJECT) {
            refused(Expect.INDEX, BUSY, said("revoke", s, 0), x -> x.revoke(s, 0));
            refused(Expect.INDEX, BUSY, said("revoke", s, 5), x -> x.revoke(s, 5));
        }
        for (int t : NO_BUSY_TOKEN) {
            refused(Expect.INDEX, BUSY, said("revoke", 0, t), x -> x.revoke(0, t));
        }
        refused(Expect.INDEX, EMPTY, "revoke of no token", x -> x.revoke(0, 0));
        denied("report", "1:1", BUSY, "revoke by one that holds another one", x -> x.revoke(0, 1));
        denied("report", "1:3", BUSY, "revoke by one that holds nothing", x -> x.revoke(5, 3));
        denied("report", "1:4", BUSY, "revoke again by one that holds nothing", x -> x.revoke(2, 4));
        Look.Maker lower = Look.after(BUSY, RefusalTest::giveOfChild);
        denied("report", "1:1", lower, "revoke by one that holds a lower one", x -> x.revoke(4, 1));
    }

    private static int giveOfChild(CapabilityStore x) {
        x.derive(1, 1);
        return x.give(1, 4, 5);
    }

    /** token, caveat, describe, left. */
    private static void looksAtTokens() {
        for (int t : NO_BUSY_TOKEN) {
            refused(Expect.INDEX, BUSY, said("token", t, 0), x -> x.token(t, 0));
            refused(Expect.INDEX, BUSY, said("token", t, 7), x -> x.token(t, 7));
            refused(Expect.INDEX, BUSY, said("caveat", t, 0, 0), x -> x.caveat(t, 0, 0));
            refused(Expect.INDEX, BUSY, said("caveat", t, 0, 3), x -> x.caveat(t, 0, 3));
            refused(Expect.INDEX, BUSY, said("describe", t, -1), x -> x.describe(t, -1));
            refused(Expect.INDEX, BUSY, said("describe", t, 0), x -> x.describe(t, 0));
            refused(Expect.INDEX, BUSY, said("left", t, 0), x -> x.left(t, 0));
            refused(Expect.INDEX, BUSY, said("left", t, -1), x -> x.left(t, -1));
        }
        for (int what : new int[] {-1, 7, 8, MOST, LEAST}) {
            refused(Expect.ARGUMENT, BUSY, said("token", 0, what), x -> x.token(0, what));
        }
        for (int what : new int[] {-1, 6, 7, MOST, LEAST}) {
            refused(Expect.ARGUMENT, BUSY, said("left", 0, what), x -> x.left(0, what));
        }
        for (int what : new int[] {-1, 3, 4, MOST, LEAST}) {
            refused(Expect.ARGUMENT, BUSY, said("caveat", 2, 1, what), x -> x.caveat(2, 1, what));
        }
        for (int caveat : new int[] {-1, 2, 3, 4, MOST, LEAST}) {
            refused(Expect.INDEX, BUSY, said("caveat", 2, caveat, 0), x -> x.caveat(2, caveat, 0));
            refused(Expect.INDEX, BUSY, said("caveat", 2, caveat, 3), x -> x.caveat(2, caveat, 3));
        }
        for (int index : new int[] {-2, -3, 5, 6, 40, MOST, LEAST}) {
            refused(Expect.INDEX, BUSY, said("describe", 2, index), x -> x.describe(2, index));
        }
    }

    /** holders, held, below, ranked. */
    private static void looksAtHolders() {
        for (int t : NO_BUSY_TOKEN) {
            refused(Expect.INDEX, BUSY, said("holders", t), x -> x.holders(t));
            refused(Expect.INDEX, BUSY, said("below", t), x -> x.below(t));
        }
        for (int t : NO_FULL_TOKEN) {
            refused(Expect.INDEX, FULL, said("holders", t), x -> x.holders(t));
            refused(Expect.INDEX, FULL, said("below", t), x -> x.below(t));
            refused(Expect.ELEMENT, FULL, said("ranked", t), x -> x.ranked(t));
        }
        for (int s : NO_SUBJECT) {
            refused(Expect.INDEX, BUSY, said("held", s), x -> x.held(s));
        }
        for (int rank : NO_BUSY_TOKEN) {
            refused(Expect.ELEMENT, BUSY, said("ranked", rank), x -> x.ranked(rank));
        }
        refused(Expect.ELEMENT, EMPTY, "ranked(0)", x -> x.ranked(0));
    }

    private static void request() {
        for (int s : NO_SUBJECT) {
            refused(Expect.INDEX, BUSY, said("request", s, 0, 1, 0), x -> x.request(s, 0, 1, 0));
            refused(Expect.INDEX, BUSY, said("request", s, 0, 4, 0), x -> x.request(s, 0, 4, 0));
        }
        for (int t : NO_BUSY_TOKEN) {
            refused(Expect.INDEX, BUSY, said("request", 0, t, 1, 0), x -> x.request(0, t, 1, 0));
            refused(Expect.INDEX, BUSY, said("request", 0, t, 0, 0), x -> x.request(0, t, 0, 0));
        }
        for (int right : new int[] {-1, 0, 3, 4, 5, 6, 7, 9, 10, 15, 16, 17, 32, MOST, LEAST}) {
            refused(Expect.ARGUMENT, BUSY, said("request", 0, 0, right, 0), x -> x.request(0, 0, right, 0));
            refused(Expect.ARGUMENT, BUSY, said("request of one not held", 2, 0, right, 0),
                    x -> x.request(2, 0, right, 0));
        }
        denied("report log", "1:0", BUSY, "request of one not held", x -> x.request(2, 0, 1, 0));
        denied("report log", "4:2 11:0 20:7", BUSY, "request out of time", x -> x.request(0, 2, 2, 99));
        denied("report log", "4:3 14:0 20:10", BUSY, "request outside of the range", x -> x.request(1, 3, 2, 10));
        denied("report log", "2:4 3:1", BUSY, "request of a revoked one", x -> x.request(1, 4, 8, 3));
    }

    private static void objectsTimeAndLog() {
        for (int o : NO_OBJECT) {
            refused(Expect.INDEX, BUSY, said("object", o, 0), x -> x.object(o, 0));
            refused(Expect.INDEX, BUSY, said("object", o, 3), x -> x.object(o, 3));
        }
        for (int what : new int[] {-1, 3, 4, MOST, LEAST}) {
            refused(Expect.ARGUMENT, BUSY, said("object", 0, what), x -> x.object(0, what));
        }
        for (int units : new int[] {0, -1, 101, 102, MOST, LEAST}) {
            refused(Expect.ARGUMENT, BUSY, said("pass", units), x -> x.pass(units));
        }
        for (int index : new int[] {-1, 1, 2, 28, MOST, LEAST}) {
            refused(Expect.ELEMENT, BUSY, said("expired", index), x -> x.expired(index));
        }
        for (int index : new int[] {-1, 4, 5, 20, MOST, LEAST}) {
            refused(Expect.ELEMENT, BUSY, said("log", index), x -> x.log(index));
        }
        for (int index : new int[] {-1, 20, 21, MOST, LEAST}) {
            refused(Expect.ELEMENT, FULL, said("log", index), x -> x.log(index));
        }
        for (int s : NO_SUBJECT) {
            refused(Expect.INDEX, BUSY, said("logged", s), x -> x.logged(s, true));
            refused(Expect.INDEX, BUSY, said("logged", s), x -> x.logged(s, false));
        }
        for (int level : new int[] {-1, 3, 4, MOST, LEAST}) {
            refused(Expect.ELEMENT, BUSY, said("report", level, 0), x -> x.report(level, 0));
            refused(Expect.ELEMENT, BUSY, said("report", level, 2), x -> x.report(level, 2));
            refused(Expect.ELEMENT, EMPTY, said("report", level, 1), x -> x.report(level, 1));
        }
        for (int what : new int[] {-1, 2, 3, MOST, LEAST}) {
            refused(Expect.ARGUMENT, BUSY, said("report", 2, what), x -> x.report(2, what));
            refused(Expect.ELEMENT, EMPTY, said("report", 0, what), x -> x.report(0, what));
        }
        refused(Expect.ELEMENT, EMPTY, "report(0, 0)", x -> x.report(0, 0));
        refused(Expect.ELEMENT, EMPTY, "log(0)", x -> x.log(0));
        refused(Expect.ELEMENT, EMPTY, "expired(0)", x -> x.expired(0));
    }

    private static void pairs() {
        for (int s : NO_SUBJECT) {
            refused(Expect.INDEX, BUSY, said("makePair", s), x -> x.makePair(s));
            refused(Expect.INDEX, FULL, said("makePair of a fifth", s), x -> x.makePair(s));
            for (boolean unsealer : new boolean[] {false, true}) {
                refused(Expect.INDEX, BUSY, said("givePair", s, 0, 1), x -> x.givePair(s, 0, 1, unsealer));
                refused(Expect.INDEX, BUSY, said("givePair", 0, s, 1), x -> x.givePair(0, s, 1, unsealer));
                refused(Expect.INDEX, BUSY, said("givePair of one not held", 3, s, 1),
                        x -> x.givePair(3, s, 1, unsealer));
            }
        }
        refused(Expect.STATE, FULL, "makePair of a fifth", x -> x.makePair(0));
        refused(Expect.STATE, FULL, "makePair of a fifth", x -> x.makePair(5));
        for (int p : NO_BUSY_PAIR) {
            refused(Expect.INDEX, BUSY, said("givePair", 0, 0, p), x -> x.givePair(0, 0, p, true));
            refused(Expect.INDEX, BUSY, said("givePair", 0, 0, p), x -> x.givePair(0, 0, p, false));
        }
        refused(Expect.INDEX, EMPTY, "givePair of no pair", x -> x.givePair(0, 0, 0, false));
        denied("report", "5:1", BUSY, "givePair by one with the unsealer", x -> x.givePair(4, 3, 1, false));
        denied("report", "5:1", BUSY, "givePair by one with the sealer", x -> x.givePair(5, 3, 1, true));
        denied("report", "5:0", BUSY, "givePair by one with another pair", x -> x.givePair(0, 3, 0, true));
        denied("report", "5:0", BUSY, "givePair to itself", x -> x.givePair(0, 0, 0, false));
    }

    private static void sealing() {
        for (int s : NO_SUBJECT) {
            refused(Expect.INDEX, BUSY, said("seal", s, 1, 0), x -> x.seal(s, 1, 0));
            refused(Expect.INDEX, FULL, said("seal of a 13th", s, 1, 0), x -> x.seal(s, 1, 0));
        }
        for (int p : NO_BUSY_PAIR) {
            refused(Expect.INDEX, BUSY, said("seal", 0, p, 0), x -> x.seal(0, p, 0));
            refused(Expect.INDEX, BUSY, said("seal of one not held", 0, p, 1), x -> x.seal(0, p, 1));
        }
        for (int t : NO_BUSY_TOKEN) {
            refused(Expect.INDEX, BUSY, said("seal", 0, 1, t), x -> x.seal(0, 1, t));
            refused(Expect.INDEX, BUSY, said("seal with one not held", 0, 0, t), x -> x.seal(0, 0, t));
        }
        for (int p : new int[] {-1, 4}) {
            refused(Expect.INDEX, FULL, said("seal of a 13th", 0, p, 0), x -> x.seal(0, p, 0));
        }
        for (int t : NO_FULL_TOKEN) {
            refused(Expect.INDEX, FULL, said("seal of a 13th", 0, 0, t), x -> x.seal(0, 0, t));
        }
        refused(Expect.INDEX, EMPTY, "seal of nothing", x -> x.seal(0, 0, 0));
        denied("report", "5:0", BUSY, "seal without the sealer", x -> x.seal(0, 0, 0));
        denied("report", "5:0", BUSY, "seal without both", x -> x.seal(0, 0, 1));
        denied("report", "1:1", BUSY, "seal without the token", x -> x.seal(0, 1, 1));
        denied("report", "5:1", BUSY, "seal with the unsealer alone", x -> x.seal(4, 1, 0));
        denied("report", "5:3", FULL, "seal of a 13th without the sealer", x -> x.seal(2, 3, 8));
        denied("report", "5:2", FULL, "seal of a 13th without both", x -> x.seal(5, 2, 0));
        denied("report", "1:1", FULL, "seal of a 13th without the token", x -> x.seal(0, 2, 1));
        refused(Expect.STATE, FULL, "seal of a 13th", x -> x.seal(0, 2, 0));
        refused(Expect.STATE, FULL, "seal of a 13th", x -> x.seal(0, 3, 7));
    }

    private static void boxes() {
        for (int s : NO_SUBJECT) {
            refused(Expect.INDEX, BUSY, said("giveBox", s, 0, 0), x -> x.giveBox(s, 0, 0));
            refused(Expect.INDEX, BUSY, said("giveBox", 0, s, 0), x -> x.giveBox(0, s, 0));
            refused(Expect.INDEX, BUSY, said("giveBox of one not held", 3, s, 0), x -> x.giveBox(3, s, 0));
            refused(Expect.INDEX, BUSY, said("unseal", s, 0), x -> x.unseal(s, 0));
        }
        for (int b : NO_BUSY_BOX) {
            refused(Expect.INDEX, BUSY, said("giveBox", 0, 1, b), x -> x.giveBox(0, 1, b));
            refused(Expect.INDEX, BUSY, said("unseal", 0, b), x -> x.unseal(0, b));
            refused(Expect.INDEX, BUSY, said("pairOf", b), x -> x.pairOf(b));
        }
        for (int b : new int[] {-1, 12}) {
            refused(Expect.INDEX, FULL, said("giveBox", 0, 1, b), x -> x.giveBox(0, 1, b));
            refused(Expect.INDEX, FULL, said("unseal", 0, b), x -> x.unseal(0, b));
            refused(Expect.INDEX, FULL, said("pairOf", b), x -> x.pairOf(b));
        }
        refused(Expect.INDEX, EMPTY, "giveBox of no box", x -> x.giveBox(0, 0, 0));
        refused(Expect.INDEX, EMPTY, "unseal of no box", x -> x.unseal(0, 0));
        refused(Expect.INDEX, EMPTY, "pairOf of no box", x -> x.pairOf(0));
        denied("report", "6:0", BUSY, "giveBox of one not held", x -> x.giveBox(4, 3, 0));
        denied("report", "6:0", BUSY, "giveBox of one not held to itself", x -> x.giveBox(3, 3, 0));
        denied("report", "6:0", BUSY, "unseal with the unsealer alone", x -> x.unseal(4, 0));
        denied("report", "6:1", BUSY, "unseal without both", x -> x.unseal(5, 1));
        Look.Maker boxAlone = Look.after(BUSY, x -> x.giveBox(0, 5, 1));
        denied("report", "5:1", boxAlone, "unseal with the sealer and the box", x -> x.unseal(5, 1));
    }

    private static void reach() {
        for (int s : NO_SUBJECT) {
            refused(Expect.INDEX, BUSY, said("rights", s, 0), x -> x.rights(s, 0));
            refused(Expect.INDEX, BUSY, said("coming", s), x -> x.coming(s));
            refused(Expect.INDEX, BUSY, said("round", s, 0), x -> x.round(s, 0));
            refused(Expect.INDEX, BUSY, said("round", s, 5), x -> x.round(s, 5));
            refused(Expect.INDEX, BUSY, said("reached", s), x -> x.reached(s));
            refused(Expect.INDEX, BUSY, said("isConfined", s, 1), x -> x.isConfined(s, 1) ? 1 : 0);
            refused(Expect.INDEX, BUSY, said("isConfined", s, 4096), x -> x.isConfined(s, 4096) ? 1 : 0);
        }
        for (int t : NO_BUSY_TOKEN) {
            refused(Expect.INDEX, BUSY, said("rights", 0, t), x -> x.rights(0, t));
            refused(Expect.INDEX, BUSY, said("round", 0, t), x -> x.round(0, t));
        }
        refused(Expect.INDEX, EMPTY, "rights with no token", x -> x.rights(0, 0));
        refused(Expect.INDEX, EMPTY, "round of no token", x -> x.round(0, 0));
        refused(Expect.ELEMENT, BUSY, "round of one that could not come", x -> x.round(2, 0));
        for (int o = 12; o < 32; o++) {
            int bit = 1 << o;
            refused(Expect.ARGUMENT, BUSY, said("isConfined", 0, bit), x -> x.isConfined(0, bit) ? 1 : 0);
            refused(Expect.ARGUMENT, BUSY, said("isConfined", 0, bit | 4095),
                    x -> x.isConfined(0, bit | 4095) ? 1 : 0);
        }
        refused(Expect.ARGUMENT, BUSY, "isConfined(0, -1)", x -> x.isConfined(0, -1) ? 1 : 0);
    }

    private static void countAndRestore() {
        for (int what : new int[] {-1, 9, 10, MOST, LEAST}) {
            refused(Expect.ARGUMENT, BUSY, said("count", what), x -> x.count(what));
        }
        refused(Expect.STATE, EMPTY, "restore", x -> x.restore());
        refused(Expect.STATE, LONG, "restore", x -> x.restore());
    }

    /** Calls that only answer; of those about reachability the document says "nothing else changes meanwhile". */
    private static void looksChangeNothing() {
        Expect.CallOn[] looks = {
            x -> x.errorPosition(), x -> x.token(2, 3), x -> x.caveat(2, 1, 1), x -> x.describe(2, 3),
            x -> x.describe(2, -1), x -> x.left(3, 4), x -> x.holders(0), x -> x.held(0), x -> x.below(0),
            x -> x.ranked(1), x -> x.object(8, 1), x -> x.expired(0), x -> x.log(0), x -> x.logged(1, false),
            x -> x.levels(), x -> x.report(2, 1), x -> x.pairOf(1), x -> x.rights(0, 1), x -> x.coming(0),
            x -> x.round(0, 2), x -> x.reached(1), x -> x.isConfined(0, 2) ? 1 : 0, x -> x.count(8),
        };
        for (int i = 0; i < looks.length; i++) {
            Expect.CallOn look = looks[i];
            CapabilityStore x = BUSY.make();
            Expect.is("look " + i + " answers", false, Expect.outcome(() -> look.answer(x)).contains("Exception"));
            Expect.same("what look " + i + " changes", "", Look.changed(BUSY, Look.after(BUSY, look)));
        }
    }
}
