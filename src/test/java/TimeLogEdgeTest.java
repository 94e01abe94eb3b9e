/** The sentences about objects, time, expiry and the log that name a boundary; promises 18 to 22 and 36. */
public final class TimeLogEdgeTest {
    public static void main(String[] args) {
        objectEachWhat();
        objectCountsItsTokens();
        passUnits();
        expiresAtItsTime();
        expiresOnce();
        neverInTime();
        expiresByItsChain();
        expiredOnesAreDeniedFromThenOn();
        withoutTimes();
        revokedOnesExpireAsWell();
        expiredInOrder();
        expiredAllAndNone();
        latestPassAlone();
        logGrows();
        logForgets();
        logEntries();
        loggedEachSubject();
        loggedForgets();
        countsGoOn();
        countEachWhat();
        countLiving();
        all512Calls();
        Expect.finish();
    }

    private static CapabilityStore rooted() {
        CapabilityStore x = new CapabilityStore();
        x.mint(0, 7, 15);
        return x;
    }

    // ---- object ----

    private static void objectEachWhat() {
        CapabilityStore x = new CapabilityStore();
        for (int o = 0; o < 12; o++) {
            x.mint(0, o, 15);
            x.request(0, o, 2, 100 + o);
            x.request(0, o, 8, 0);
        }
        for (int o = 0; o < 12; o++) {
            int object = o;
            Expect.is("content of " + o, 100 + o, () -> x.object(object, 0));
            Expect.is("calls of " + o, 1, () -> x.object(object, 1));
            Expect.is("tokens for " + o, 1, () -> x.object(object, 2));
        }
    }

    /** "2 for the number of tokens for it": derived, revoked and dropped ones, too; none and all. */
    private static void objectCountsItsTokens() {
        CapabilityStore x = rooted();
        Expect.is("one", 1, () -> x.object(7, 2));
        Expect.derive(x, 0, 0, "r1");
        Expect.derive(x, 0, 1, "r1");
        Expect.is("derived ones", 3, () -> x.object(7, 2));
        x.revoke(0, 1);
        x.drop(0, 0);
        Expect.is("revoked and dropped ones", 3, () -> x.object(7, 2));
        x.mint(0, 8, 1);
        Expect.is("not those for another object", 3, () -> x.object(7, 2));
        Expect.is("none", 0, () -> x.object(6, 2));
        for (int t = 4; t < 28; t++) {
            x.mint(1, 11, 0);
        }
        Expect.is("the rest", 24, () -> x.object(11, 2));
    }

    // ---- pass and expired ----

    /** "by how much the time increases, 1 to 100". */
    private static void passUnits() {
        CapabilityStore x = rooted();
        x.pass(1);
        Expect.is("after 1", 1, () -> x.count(1));
        x.pass(100);
        Expect.is("after 100 more", 101, () -> x.count(1));
        for (int units : new int[] {0, 101, -1, -100, Integer.MAX_VALUE, Integer.MIN_VALUE}) {
            Expect.fails("pass(" + units + ")", Expect.ARGUMENT, () -> x.pass(units));
            Expect.is("after a refused one", 101, () -> x.count(1));
        }
        for (int i = 0; i < 50; i++) {
            x.pass(100);
        }
        Expect.is("far beyond all times", 5101, () -> x.count(1));
    }

    /** "if the present time was less than the times .. before, and is not any more from then on". */
    private static void expiresAtItsTime() {
        int[][] passes = {{4, 0}, {5, 1}, {6, 1}, {100, 1}};
        for (int[] p : passes) {
            CapabilityStore x = rooted();
            Expect.derive(x, 0, 0, "t5");
            Expect.is("pass(" + p[0] + ") with t5", p[1], () -> x.pass(p[0]));
            Expect.is("what is open then", p[1] == 1 ? 0 : 15, () -> x.rights(0, 1));
        }
        CapabilityStore y = rooted();
        Expect.derive(y, 0, 0, "t1");
        Expect.derive(y, 0, 0, "t100");
        Expect.derive(y, 0, 0, "t101");
        Expect.is("the first and the last of a pass", 2, () -> y.pass(100));
        Expect.is("the first", 1, () -> y.expired(0));
        Expect.is("the last", 2, () -> y.expired(1));
        Expect.fails("none beyond", Expect.ELEMENT, () -> y.expired(2));
        Expect.is("the one beyond", 1, () -> y.pass(1));
        Expect.is("it", 3, () -> y.expired(0));
        CapabilityStore z = rooted();
        Expect.derive(z, 0, 0, "t999");
        for (int i = 0; i < 9; i++) {
            Expect.is("before 999", 0, () -> z.pass(100));
        }
        Expect.is("at 998", 0, () -> z.pass(98));
        Expect.is("at 999", 1, () -> z.pass(1));
    }

    private static void expiresOnce() {
        CapabilityStore x = rooted();
        Expect.derive(x, 0, 0, "t3;t7;t3");
        Expect.is("before", 0, () -> x.pass(2));
        Expect.is("at the least time", 1, () -> x.pass(1));
        Expect.is("after", 0, () -> x.pass(1));
        Expect.is("at the other time", 0, () -> x.pass(3));
        Expect.is("after all", 0, () -> x.pass(100));
        CapabilityStore y = rooted();
        Expect.derive(y, 0, 0, "t3;t7");
        Expect.is("both times in one pass", 1, () -> y.pass(10));
        Expect.fails("once alone", Expect.ELEMENT, () -> y.expired(1));
    }

    /** "if the present time was less .. before": it never was. */
    private static void neverInTime() {
        CapabilityStore x = rooted();
        Expect.derive(x, 0, 0, "t0");
        Expect.derive(x, 0, 0, "t0;t9");
        Expect.is("t0", 0, () -> x.pass(10));
        Expect.derive(x, 0, 0, "t9");
        Expect.derive(x, 0, 0, "t10");
        Expect.derive(x, 0, 0, "t11");
        Expect.derive(x, 0, 0, "t10;t12");
        Expect.is("the one after the time alone", 1, () -> x.pass(5));
        Expect.is("it", 5, () -> x.expired(0));
    }

    /** "the times of all caveats of kind 1 in its chain". */
    private static void expiresByItsChain() {
        CapabilityStore x = rooted();
        Expect.derive(x, 0, 0, "t5");
        Expect.derive(x, 0, 1, "t8");
        Expect.derive(x, 0, 1, "r1");
        Expect.derive(x, 0, 0, "t8");
        Expect.derive(x, 0, 4, "t5");
        Expect.derive(x, 0, 4, "r1");
        Expect.is("at 5", 4, () -> x.pass(5));
        int[] due = {1, 2, 3, 5};
        for (int i = 0; i < 4; i++) {
            int index = i;
            Expect.is("expired(" + i + ")", due[i], () -> x.expired(index));
        }
        Expect.is("at 8", 2, () -> x.pass(3));
        Expect.is("the upper one", 4, () -> x.expired(0));
        Expect.is("the lower one", 6, () -> x.expired(1));
    }

    private static void expiredOnesAreDeniedFromThenOn() {
        CapabilityStore x = rooted();
        Expect.derive(x, 0, 0, "t2");
        x.pass(1);
        Expect.is("before", 0, () -> x.request(0, 1, 1, 0));
        x.pass(1);
        Expect.fails("at its time", Expect.DENIED, () -> x.request(0, 1, 1, 0));
        Expect.fails("at its time", Expect.DENIED, () -> x.give(0, 1, 1));
        Expect.is("expired is not revoked", 0, () -> x.token(1, 5));
        Expect.is("it is still living", 2, () -> x.count(8));
        Expect.is("it is still held", 3, () -> x.held(0));
        x.pass(100);
        Expect.fails("after its time", Expect.DENIED, () -> x.request(0, 1, 1, 0));
        Expect.same("its report", "4:1 11:0 20:102", Expect.reported(x));
    }

    /** "A token without caveats of kind 1 in its chain is never among the expired ones". */
    private static void withoutTimes() {
        CapabilityStore x = rooted();
        Expect.derive(x, 0, 0, "n1;s1;a1-2;r2");
        Expect.derive(x, 0, 1, "n0");
        Expect.derive(x, 0, 0, "t3");
        Expect.is("those with times alone", 1, () -> x.pass(100));
        Expect.is("the one", 3, () -> x.expired(0));
        Expect.fails("no other", Expect.ELEMENT, () -> x.expired(1));
        CapabilityStore y = rooted();
        Expect.derive(y, 0, 0, "t9");
        Expect.is("a chain above the one with the time", 1, () -> y.pass(20));
        Expect.is("not the root", 1, () -> y.expired(0));
    }

    /** "and revoked tokens expire as well", also those that nobody holds. */
    private static void revokedOnesExpireAsWell() {
        CapabilityStore x = rooted();
        Expect.derive(x, 0, 0, "t4");
        Expect.derive(x, 0, 0, "t4");
        Expect.derive(x, 0, 0, "t4;n0;r0;s5");
        x.drop(0, 2);
        x.revoke(0, 1);
        x.revoke(0, 0);
        Expect.is("a revoked one, a dropped one, and one that allows nothing", 3, () -> x.pass(4));
        Expect.is("the first", 1, () -> x.expired(0));
        Expect.is("the second", 2, () -> x.expired(1));
        Expect.is("the third", 3, () -> x.expired(2));
    }

    /** "in the order of the times at which they expired, for equal times in the order of the tokens". */
    private static void expiredInOrder() {
        CapabilityStore x = rooted();
        for (String text : new String[] {"t9", "t2", "t9", "t1", "t2", "t10", "t1"}) {
            Expect.derive(x, 0, 0, text);
        }
        Expect.is("pass", 6, () -> x.pass(9));
        int[] due = {4, 7, 2, 5, 1, 3};
        for (int i = 0; i < due.length; i++) {
            int index = i;
            Expect.is("expired(" + i + ")", due[i], () -> x.expired(index));
        }
        Expect.fails("no seventh", Expect.ELEMENT, () -> x.expired(6));
        Expect.fails("none before the first", Expect.ELEMENT, () -> x.expired(-1));
    }

    /** All 27 that can have a time, at one time and at several. */
    private static void expiredAllAndNone() {
        CapabilityStore x = rooted();
        for (int t = 1; t < 28; t++) {
            Expect.derive(x, 0, 0, "t" + (t % 2 == 0 ? 8 : 7));
        }
        Expect.is("none yet", 0, () -> x.pass(6));
        Expect.fails("none yet", Expect.ELEMENT, () -> x.expired(0));
        Expect.is("all", 27, () -> x.pass(2));
        Expect.is("the first", 1, () -> x.expired(0));
        Expect.is("the last of the first time", 27, () -> x.expired(13));
        Expect.is("the first of the second time", 2, () -> x.expired(14));
        Expect.is("the last", 26, () -> x.expired(26));
        Expect.fails("no 28th", Expect.ELEMENT, () -> x.expired(27));
    }

    /** "the expired ones are those of the latest pass, none at first". */
    private static void latestPassAlone() {
        CapabilityStore x = rooted();
        Expect.fails("none at first", Expect.ELEMENT, () -> x.expired(0));
        Expect.derive(x, 0, 0, "t1");
        Expect.derive(x, 0, 0, "t2");
        Expect.derive(x, 0, 0, "t3");
        Expect.is("two", 2, () -> x.pass(2));
        Expect.is("the second", 2, () -> x.expired(1));
        Expect.fails("a refused pass", Expect.ARGUMENT, () -> x.pass(101));
        Expect.is("leaves them", 2, () -> x.expired(1));
        Expect.is("one", 1, () -> x.pass(1));
        Expect.is("the one", 3, () -> x.expired(0));
        Expect.fails("the others are gone", Expect.ELEMENT, () -> x.expired(1));
        Expect.is("none", 0, () -> x.pass(1));
        Expect.fails("the one is gone", Expect.ELEMENT, () -> x.expired(0));
    }

    // ---- log ----

    /** "0 for the latest entry"; from none to 20 entries. */
    private static void logGrows() {
        CapabilityStore x = rooted();
        Expect.is("none at first", 0, () -> x.count(6));
        Expect.fails("none at first", Expect.ELEMENT, () -> x.log(0));
        for (int n = 1; n <= 20; n++) {
            int entries = n;
            Expect.outcome(() -> x.request(entries % 6, 0, 1, 0));
            Expect.is("entries", n, () -> x.count(6));
            Expect.is("the latest", n % 6 == 0 ? 1 : 1000 * (n % 6), () -> x.log(0));
            Expect.is("the oldest", 1000, () -> x.log(entries - 1));
            Expect.fails("none before it", Expect.ELEMENT, () -> x.log(entries));
        }
        Expect.fails("none after the latest", Expect.ELEMENT, () -> x.log(-1));
    }

    /** "The latest 20 requests are kept": the 21st forgets the first, the 41st the 21st. */
    private static void logForgets() {
        CapabilityStore x = new CapabilityStore();
        for (int t = 0; t < 28; t++) {
            x.mint(0, 0, 15);
        }
        for (int n = 0; n < 45; n++) {
            int request = n;
            x.request(0, n % 28, 1, 0);
            int kept = Math.min(20, n + 1);
            Expect.is("entries", kept, () -> x.count(6));
            Expect.is("the oldest", 10 * ((n - kept + 1) % 28) + 1, () -> x.log(kept - 1));
            Expect.is("the latest", 10 * (request % 28) + 1, () -> x.log(0));
            Expect.fails("none before the oldest", Expect.ELEMENT, () -> x.log(kept));
        }
        for (int i = 0; i < 20; i++) {
            int index = i;
            Expect.is("log(" + i + ")", 10 * ((44 - i) % 28) + 1, () -> x.log(index));
        }
    }

    /** "1000 * subject + 10 * token, plus 1 if it was allowed": the least and the greatest; whatever the right is. */
    private static void logEntries() {
        CapabilityStore x = new CapabilityStore();
        x.mint(0, 0, 11);
        for (int t = 1; t < 28; t++) {
            x.mint(5, 0, 3);
        }
        x.request(5, 27, 1, 9);
        Expect.is("the greatest", 5271, () -> x.log(0));
        Expect.fails("denied", Expect.DENIED, () -> x.request(5, 27, 8, 9));
        Expect.is("denied", 5270, () -> x.log(0));
        Expect.fails("not held", Expect.DENIED, () -> x.request(1, 0, 8, 9));
        Expect.is("not held", 1000, () -> x.log(0));
        Expect.fails("not held", Expect.DENIED, () -> x.request(0, 27, 2, 9));
        Expect.is("not held", 270, () -> x.log(0));
        x.request(0, 0, 8, 3);
        Expect.is("a call", 1, () -> x.log(0));
        x.request(0, 0, 2, 3);
        Expect.is("a write", 1, () -> x.log(0));
        x.revoke(0, 0);
        Expect.fails("revoked", Expect.DENIED, () -> x.request(0, 0, 1, 0));
        Expect.is("the least", 0, () -> x.log(0));
        Expect.is("an earlier one", 5271, () -> x.log(6));
        for (int wrong : new int[] {0, 3, 4, 5, 16}) {
            Expect.fails("no such right", Expect.ARGUMENT, () -> x.request(0, 0, wrong, 0));
        }
        Expect.fails("no such token", Expect.INDEX, () -> x.request(0, 28, 1, 0));
        Expect.fails("no such subject", Expect.INDEX, () -> x.request(6, 0, 1, 0));
        Expect.is("these leave no entry", 7, () -> x.count(6));
    }

    private static void loggedEachSubject() {
        CapabilityStore x = rooted();
        for (int s = 1; s < 6; s++) {
            x.give(0, s, 0);
        }
        for (int s = 0; s < 6; s++) {
            for (int n = 0; n < s; n++) {
                x.request(s, 0, 1, 0);
            }
        }
        x.drop(5, 0);
        x.drop(0, 0);
        Expect.fails("denied", Expect.DENIED, () -> x.request(5, 0, 1, 0));
        Expect.fails("denied", Expect.DENIED, () -> x.request(5, 0, 1, 0));
        Expect.fails("denied", Expect.DENIED, () -> x.request(0, 0, 1, 0));
        for (int s = 0; s < 6; s++) {
            int subject = s;
            Expect.is("logged(" + s + ", true)", s, () -> x.logged(subject, true));
            Expect.is("logged(" + s + ", false)", s == 5 ? 2 : s == 0 ? 1 : 0, () -> x.logged(subject, false));
        }
    }

    /** "the number of entries in the log": those that are forgotten do not count. */
    private static void loggedForgets() {
        CapabilityStore x = rooted();
        x.give(0, 1, 0);
        Expect.outcome(() -> x.request(2, 0, 1, 0));
        x.request(1, 0, 1, 0);
        for (int n = 0; n < 18; n++) {
            x.request(0, 0, 1, 0);
        }
        Expect.is("the oldest is kept", 1, () -> x.logged(2, false));
        Expect.is("the second is kept", 1, () -> x.logged(1, true));
        x.request(0, 0, 1, 0);
        Expect.is("the oldest is forgotten", 0, () -> x.logged(2, false));
        Expect.is("the second is kept", 1, () -> x.logged(1, true));
        x.request(0, 0, 1, 0);
        Expect.is("the second is forgotten", 0, () -> x.logged(1, true));
        Expect.is("all are of one", 20, () -> x.logged(0, true));
        x.request(0, 0, 1, 0);
        Expect.is("no more than 20", 20, () -> x.logged(0, true));
    }

    /** "The counts of allowed and denied requests go on when the log forgets entries, and they are saved." */
    private static void countsGoOn() {
        CapabilityStore x = rooted();
        for (int n = 0; n < 30; n++) {
            x.request(0, 0, 1, 0);
            Expect.outcome(() -> x.request(1, 0, 1, 0));
        }
        Expect.is("allowed", 30, () -> x.count(4));
        Expect.is("denied", 30, () -> x.count(5));
        Expect.is("entries", 20, () -> x.count(6));
        x.save();
        x.request(0, 0, 1, 0);
        Expect.outcome(() -> x.request(1, 0, 1, 0));
        Expect.outcome(() -> x.request(1, 0, 1, 0));
        Expect.is("allowed", 31, () -> x.count(4));
        Expect.is("denied", 32, () -> x.count(5));
        x.restore();
        Expect.is("allowed, saved", 30, () -> x.count(4));
        Expect.is("denied, saved", 30, () -> x.count(5));
    }

    // ---- count ----

    /** Promise 36: each what from 0 to 8 by itself. */
    private static void countEachWhat() {
        CapabilityStore x = new CapabilityStore();
        int[] due = new int[9];
        counts(x, due);
        x.mint(0, 0, 15);
        due[0] = 1;
        due[8] = 1;
        counts(x, due);
        x.pass(3);
        due[1] = 3;
        counts(x, due);
        x.makePair(0);
        due[2] = 1;
        counts(x, due);
        x.seal(0, 0, 0);
        due[3] = 1;
        counts(x, due);
        x.request(0, 0, 1, 0);
        due[4] = 1;
        due[6] = 1;
        counts(x, due);
        Expect.outcome(() -> x.request(1, 0, 1, 0));
        due[5] = 1;
        due[6] = 2;
        counts(x, due);
        x.append('r');
        due[7] = 1;
        counts(x, due);
        x.revoke(0, 0);
        due[8] = 0;
        counts(x, due);
    }

    private static void counts(CapabilityStore x, int[] due) {
        for (int what = 0; what <= 8; what++) {
            int number = what;
            Expect.is("count(" + what + ")", due[what], () -> x.count(number));
        }
        Expect.fails("count(9)", Expect.ARGUMENT, () -> x.count(9));
        Expect.fails("count(-1)", Expect.ARGUMENT, () -> x.count(-1));
    }

    /** "8 for tokens without a revoked token in their chains". */
    private static void countLiving() {
        CapabilityStore x = rooted();
        Expect.derive(x, 0, 0, "t0;n0");
        Expect.derive(x, 0, 1, "r0");
        x.mint(0, 7, 0);
        Expect.is("all", 4, () -> x.count(8));
        x.drop(0, 3);
        Expect.is("one that nobody holds", 4, () -> x.count(8));
        x.revoke(0, 2);
        Expect.is("the lowest revoked", 3, () -> x.count(8));
        Expect.derive(x, 0, 2, "r1");
        Expect.is("one below it", 3, () -> x.count(8));
        x.revoke(0, 0);
        Expect.is("the root revoked", 1, () -> x.count(8));
    }

    /** "An object is used for at most 512 calls": up to the last one it answers as ever. */
    private static void all512Calls() {
        CapabilityStore x = rooted();
        for (int call = 2; call < 511; call++) {
            int due = call - 1;
            Expect.is("call " + call, due, () -> x.request(0, 0, 8, 0));
        }
        Expect.is("call 511", 509, () -> x.count(4));
        Expect.is("call 512", 509, () -> x.token(0, 3));
    }
}
