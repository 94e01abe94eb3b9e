/** Promises 17 to 24: requests, objects, time, the log and reports. */
public final class RequestTest {
    public static void main(String[] args) {
        promise17Allowed();
        promise17Wrong();
        promise17Denied();
        promise17FirstReasonCounts();
        promise18Object();
        promise19Pass();
        promise19PassWrong();
        promise20Expired();
        promise21Log();
        promise22Logged();
        promise23And24Reports();
        Expect.finish();
    }

    private static void promise17Allowed() {
        CapabilityStore x = new CapabilityStore();
        x.mint(0, 7, 15);
        Expect.derive(x, 0, 0, "r11");
        x.mint(0, 7, 15);
        Expect.is("read", 0, () -> x.request(0, 1, 1, 99));
        Expect.is("write answers the one before", 0, () -> x.request(0, 1, 2, -5));
        Expect.is("write answers the one before", -5, () -> x.request(0, 0, 2, Integer.MAX_VALUE));
        Expect.is("read", Integer.MAX_VALUE, () -> x.request(0, 0, 1, 3));
        Expect.is("call answers the new number", 1, () -> x.request(0, 1, 8, 4));
        Expect.is("call answers the new number", 2, () -> x.request(0, 2, 8, 4));
        Expect.is("call leaves the content", Integer.MAX_VALUE, () -> x.object(7, 0));
        Expect.is("uses of the chain", 5, () -> x.token(0, 3));
        Expect.is("uses of the lower one", 3, () -> x.token(1, 3));
        Expect.is("uses of another one", 1, () -> x.token(2, 3));
        Expect.is("allowed", 6, () -> x.count(4));
        Expect.is("denied", 0, () -> x.count(5));
        Expect.same("no report", "", Expect.reported(x));
    }

    private static void promise17Wrong() {
        CapabilityStore x = new CapabilityStore();
        x.mint(0, 7, 15);
        int[][] places = {{6, 0}, {-1, 0}, {0, 1}, {0, -1}};
        for (int[] place : places) {
            Expect.fails("request(" + place[0] + ", " + place[1] + ", 1, 0)", Expect.INDEX,
                    () -> x.request(place[0], place[1], 1, 0));
            Expect.fails("request there without a right", Expect.INDEX, () -> x.request(place[0], place[1], 3, 0));
        }
        int[] rights = {0, 3, 4, 5, 7, 9, 10, 15, 16, -1, Integer.MIN_VALUE};
        for (int right : rights) {
            Expect.fails("request of right " + right, Expect.ARGUMENT, () -> x.request(0, 0, right, 0));
            Expect.fails("the same by one without the token", Expect.ARGUMENT, () -> x.request(1, 0, right, 0));
        }
        Expect.is("entries", 0, () -> x.count(6));
    }

    private static void denied(CapabilityStore x, int subject, int token, int right, int argument, String report) {
        String call = "request(" + subject + ", " + token + ", " + right + ", " + argument + ")";
        Expect.fails(call, Expect.DENIED, () -> x.request(subject, token, right, argument));
        Expect.same("the report of " + call, report, Expect.reported(x));
        Expect.is("the entry of " + call, 1000 * subject + 10 * token, () -> x.log(0));
    }

    private static void promise17Denied() {
        CapabilityStore x = new CapabilityStore();
        x.mint(1, 7, 15);
        denied(x, 0, 0, 1, 0, "1:0");
        Expect.derive(x, 1, 0, "r5");
        denied(x, 1, 1, 8, 0, "4:1 10:0 20:8");
        denied(x, 1, 1, 2, 0, "4:1 10:0 20:2");
        Expect.derive(x, 1, 0, "r15;t2");
        x.pass(1);
        Expect.is("before the time", 0, () -> x.request(1, 2, 1, 0));
        x.pass(2);
        denied(x, 1, 2, 1, 0, "4:2 11:1 20:3");
        Expect.derive(x, 1, 0, "r15;a0-9;s2");
        denied(x, 1, 3, 1, 0, "4:3 12:2 20:1");
        Expect.derive(x, 1, 0, "n1");
        Expect.is("the first use", 0, () -> x.request(1, 4, 1, 0));
        denied(x, 1, 4, 1, 0, "4:4 13:0 20:1");
        Expect.is("a denied request is no use", 1, () -> x.token(4, 3));
        Expect.derive(x, 1, 0, "a3-5");
        denied(x, 1, 5, 1, 2, "4:5 14:0 20:2");
        denied(x, 1, 5, 8, 6, "4:5 14:0 20:6");
        denied(x, 1, 5, 2, Integer.MIN_VALUE, "4:5 14:0 20:-2147483648");
        Expect.is("the least argument", 0, () -> x.request(1, 5, 2, 3));
        Expect.is("the greatest argument", 3, () -> x.request(1, 5, 2, 5));
        Expect.is("the content", 5, () -> x.object(7, 0));
        Expect.is("the calls", 0, () -> x.object(7, 1));
        x.revoke(1, 5);
        denied(x, 1, 5, 1, 3, "2:5 3:1");
    }

    private static void promise17FirstReasonCounts() {
        CapabilityStore x = new CapabilityStore();
        x.mint(0, 7, 14);
        Expect.derive(x, 0, 0, "s1;r0");
        Expect.derive(x, 0, 1, "t0;n0");
        denied(x, 0, 2, 1, 0, "4:0 10:0 20:1");
        denied(x, 0, 2, 2, 0, "4:1 12:0 20:0");
        x.revoke(0, 2);
        denied(x, 0, 2, 2, 0, "4:1 12:0 20:0");
        x.revoke(0, 1);
        denied(x, 0, 2, 2, 0, "2:1 3:0");
        denied(x, 0, 2, 1, 0, "4:0 10:0 20:1");
        denied(x, 1, 2, 1, 0, "1:2");
        x.revoke(0, 0);
        denied(x, 0, 2, 1, 0, "2:0 3:0");
        Expect.is("no uses", 0, () -> x.token(0, 3) + x.token(1, 3) + x.token(2, 3));
        Expect.is("denied", 7, () -> x.count(5));
    }

    private static void promise18Object() {
        CapabilityStore x = new CapabilityStore();
        x.mint(0, 11, 15);
        Expect.derive(x, 0, 0, "r8");
        x.mint(0, 0, 15);
        x.request(0, 0, 2, 42);
        x.request(0, 1, 8, 0);
        x.request(0, 1, 8, 0);
        Expect.is("content", 42, () -> x.object(11, 0));
        Expect.is("calls", 2, () -> x.object(11, 1));
        Expect.is("tokens", 2, () -> x.object(11, 2));
        Expect.is("tokens of another one", 1, () -> x.object(0, 2));
        Expect.is("content of another one", 0, () -> x.object(0, 0));
        Expect.is("tokens of a third one", 0, () -> x.object(5, 2));
        x.revoke(0, 0);
        Expect.is("revoked tokens are for it, too", 2, () -> x.object(11, 2));
        Expect.fails("no such object", Expect.INDEX, () -> x.object(12, 0));
        Expect.fails("no such object, nor what", Expect.INDEX, () -> x.object(-1, 3));
        Expect.fails("no such what", Expect.ARGUMENT, () -> x.object(0, 3));
        Expect.fails("no such what", Expect.ARGUMENT, () -> x.object(0, -1));
    }

    private static void promise19Pass() {
        CapabilityStore x = new CapabilityStore();
        x.mint(0, 7, 15);
        Expect.derive(x, 0, 0, "t5;t9");
        Expect.derive(x, 0, 1, "t7");
        Expect.derive(x, 0, 0, "t0");
        Expect.derive(x, 0, 0, "t105");
        Expect.is("before any time", 0, () -> x.pass(4));
        Expect.is("the time", 4, () -> x.count(1));
        Expect.is("at the time", 2, () -> x.pass(1));
        Expect.is("once alone", 0, () -> x.pass(1));
        Expect.derive(x, 0, 0, "t6");
        Expect.is("one that never was in time", 0, () -> x.pass(98));
        Expect.is("just before", 104, () -> x.count(1));
        Expect.is("a time beyond", 1, () -> x.pass(100));
        Expect.is("the time", 204, () -> x.count(1));
        Expect.is("nothing is in time any more", 0, () -> x.pass(100));
    }

    private static void promise19PassWrong() {
        CapabilityStore x = new CapabilityStore();
        x.mint(0, 7, 15);
        Expect.derive(x, 0, 0, "t1");
        Expect.is("pass", 1, () -> x.pass(1));
        int[] wrong = {0, -1, 101, Integer.MAX_VALUE, Integer.MIN_VALUE};
        for (int units : wrong) {
            Expect.fails("pass(" + units + ")", Expect.ARGUMENT, () -> x.pass(units));
        }
        Expect.is("the expired one stays", 1, () -> x.expired(0));
    }

    private static void promise20Expired() {
        CapabilityStore x = new CapabilityStore();
        x.mint(0, 7, 15);
        Expect.derive(x, 0, 0, "t9");
        Expect.derive(x, 0, 0, "t3");
        Expect.derive(x, 0, 1, "t3");
        Expect.derive(x, 0, 1, "r1");
        Expect.derive(x, 0, 0, "t10");
        x.revoke(0, 2);
        Expect.is("pass", 4, () -> x.pass(9));
        int[] due = {2, 3, 1, 4};
        for (int i = 0; i < due.length; i++) {
            int index = i;
            Expect.is("expired(" + i + ")", due[i], () -> x.expired(index));
        }
        Expect.fails("no such index", Expect.ELEMENT, () -> x.expired(4));
        Expect.fails("no such index", Expect.ELEMENT, () -> x.expired(-1));
        x.save();
        Expect.is("pass", 1, () -> x.pass(1));
        Expect.is("the latest pass alone", 5, () -> x.expired(0));
        Expect.fails("the latest pass alone", Expect.ELEMENT, () -> x.expired(1));
        x.pass(1);
        Expect.fails("nothing in the latest pass", Expect.ELEMENT, () -> x.expired(0));
        x.restore();
        Expect.is("they are saved", 4, () -> x.expired(3));
        Expect.fails("and no more", Expect.ELEMENT, () -> x.expired(4));
    }

    private static void promise21Log() {
        CapabilityStore x = new CapabilityStore();
        for (int t = 0; t < 28; t++) {
            x.mint(5, 0, 1);
        }
        for (int t = 0; t < 20; t++) {
            x.request(5, t, 1, 0);
        }
        Expect.is("the oldest of twenty", 5001, () -> x.log(19));
        for (int t = 20; t < 28; t++) {
            int token = t;
            Expect.fails("denied", Expect.DENIED, () -> x.request(5, token, 2, 0));
        }
        for (int i = 0; i < 20; i++) {
            int index = i;
            int token = 27 - i;
            Expect.is("log(" + i + ")", 5000 + 10 * token + (token < 20 ? 1 : 0), () -> x.log(index));
        }
        Expect.fails("the 21st", Expect.ELEMENT, () -> x.log(20));
        Expect.fails("none", Expect.ELEMENT, () -> x.log(-1));
        Expect.is("entries", 20, () -> x.count(6));
        Expect.is("allowed", 20, () -> x.count(4));
        Expect.is("denied", 8, () -> x.count(5));
        CapabilityStore y = new CapabilityStore();
        y.mint(0, 0, 1);
        y.request(0, 0, 1, 0);
        Expect.fails("one entry alone", Expect.ELEMENT, () -> y.log(1));
    }

    private static void promise22Logged() {
        CapabilityStore x = new CapabilityStore();
        x.mint(1, 0, 5);
        x.give(1, 2, 0);
        for (int i = 0; i < 15; i++) {
            x.request(1, 0, 1, 0);
        }
        for (int i = 0; i < 3; i++) {
            x.request(2, 0, 1, 0);
            Expect.fails("denied", Expect.DENIED, () -> x.request(2, 0, 2, 0));
        }
        Expect.fails("denied", Expect.DENIED, () -> x.request(0, 0, 1, 0));
        int[][] due = {{0, 1}, {13, 0}, {3, 3}, {0, 0}, {0, 0}, {0, 0}};
        for (int s = 0; s < 6; s++) {
            int subject = s;
            Expect.is("logged(" + s + ", true)", due[s][0], () -> x.logged(subject, true));
            Expect.is("logged(" + s + ", false)", due[s][1], () -> x.logged(subject, false));
        }
        Expect.is("allowed", 18, () -> x.count(4));
        Expect.fails("no such subject", Expect.INDEX, () -> x.logged(6, true));
        Expect.fails("no such subject", Expect.INDEX, () -> x.logged(-1, false));
    }

    private static void promise23And24Reports() {
        CapabilityStore x = new CapabilityStore();
        x.mint(0, 0, 3);
        Expect.fails("denied", Expect.DENIED, () -> x.request(0, 0, 8, 0));
        Expect.is("three levels", 3, x::levels);
        Expect.is("a code", 10, () -> x.report(1, 0));
        Expect.is("a detail", 8, () -> x.report(2, 1));
        Expect.fails("no such level", Expect.ELEMENT, () -> x.report(3, 0));
        Expect.fails("no such level", Expect.ELEMENT, () -> x.report(-1, 0));
        Expect.fails("no such level, nor what", Expect.ELEMENT, () -> x.report(3, 2));
        Expect.fails("no such what", Expect.ARGUMENT, () -> x.report(0, 2));
        Expect.fails("no such what", Expect.ARGUMENT, () -> x.report(0, -1));
        x.request(0, 0, 1, 0);
        Expect.is("an allowed request leaves it", 3, x::levels);
        Expect.fails("denied", Expect.DENIED, () -> x.request(1, 0, 8, 0));
        Expect.is("one level", 1, x::levels);
        Expect.fails("a level of the one before", Expect.ELEMENT, () -> x.report(1, 0));
        x.revoke(0, 0);
        Expect.fails("denied", Expect.DENIED, () -> x.request(0, 0, 1, 0));
        Expect.is("two levels", 2, x::levels);
        x.save();
        Expect.fails("denied", Expect.DENIED, () -> x.request(1, 0, 8, 0));
        x.restore();
        Expect.same("the report is not saved", "1:0", Expect.reported(x));
    }
}
