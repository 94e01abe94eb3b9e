/** Promises 36 to 38: counts and snapshots. */
public final class SnapshotTest {
    public static void main(String[] args) {
        promise36Count();
        promise37And38SaveAll();
        promise37SaveExpired();
        promise37SaveNotAll();
        promise37SaveReplaces();
        promise38Restore();
        promise38MoreAfterRestore();
        Expect.finish();
    }

    private static void promise36Count() {
        CapabilityStore x = busy();
        int[] due = {5, 7, 2, 2, 2, 1, 3, 3, 4};
        for (int what = 0; what <= 8; what++) {
            int number = what;
            Expect.is("count(" + what + ")", due[what], () -> x.count(number));
        }
        Expect.fails("no such what", Expect.ARGUMENT, () -> x.count(9));
        Expect.fails("no such what", Expect.ARGUMENT, () -> x.count(-1));
    }

    /** A store with something of everything. */
    private static CapabilityStore busy() {
        CapabilityStore x = new CapabilityStore();
        x.mint(0, 1, 15);
        x.mint(1, 8, 15);
        Expect.derive(x, 0, 0, "t5;n4");
        Expect.derive(x, 1, 1, "a3-9");
        Expect.derive(x, 1, 3, "r1");
        x.revoke(1, 4);
        x.request(0, 2, 2, 31);
        x.request(1, 3, 8, 5);
        Expect.fails("denied", Expect.DENIED, () -> x.request(1, 3, 8, 2));
        x.makePair(2);
        x.makePair(0);
        x.seal(0, 1, 0);
        x.seal(0, 1, 2);
        x.pass(7);
        Expect.put(x, "r1;");
        return x;
    }

    private static void promise37And38SaveAll() {
        Look.Maker saved = Look.after(SnapshotTest::busy, x -> x.save());
        Look.Maker restored = Look.after(Look.after(saved, SnapshotTest::changeAll), x -> x.restore());
        Expect.same("what is not as it was", "", Look.changed(saved, restored));
        CapabilityStore x = restored.make();
        Expect.is("who holds the unsealer", 1, () -> x.givePair(0, 0, 1, true));
        Expect.is("who holds the sealer", 1, () -> x.givePair(0, 0, 1, false));
        Expect.is("who holds the box", 1, () -> x.giveBox(0, 0, 1));
        Expect.fails("the box that is gone", Expect.INDEX, () -> x.pairOf(2));
        Expect.fails("the pair that is gone", Expect.INDEX, () -> x.givePair(5, 5, 2, true));
        Expect.is("what is in the box", 2, () -> x.unseal(0, 1));
    }

    private static int changeAll(CapabilityStore x) {
        x.mint(3, 3, 3);
        x.drop(0, 0);
        x.give(1, 4, 1);
        x.request(1, 1, 2, 8);
        x.request(1, 1, 8, 8);
        x.makePair(5);
        x.givePair(0, 3, 1, true);
        x.givePair(0, 4, 1, false);
        x.giveBox(0, 3, 1);
        x.seal(5, 2, x.mint(5, 5, 5));
        x.revoke(1, 1);
        return x.pass(100);
    }

    private static void promise37SaveExpired() {
        CapabilityStore x = new CapabilityStore();
        x.mint(0, 0, 15);
        Expect.derive(x, 0, 0, "t8");
        Expect.derive(x, 0, 0, "t3");
        Expect.is("one expires", 1, () -> x.pass(5));
        x.save();
        Expect.is("another one expires", 1, () -> x.pass(5));
        Expect.is("it is the first one", 1, () -> x.expired(0));
        x.restore();
        Expect.is("the one that is saved", 2, () -> x.expired(0));
        Expect.is("the time is saved", 5, () -> x.count(1));
        Expect.is("the other one expires once more", 1, () -> x.pass(3));
    }

    private static void promise37SaveNotAll() {
        CapabilityStore x = new CapabilityStore();
        x.mint(0, 0, 15);
        Expect.put(x, "r1");
        x.save();
        Expect.put(x, ";x");
        x.restore();
        Expect.is("the buffer is not saved", 4, () -> x.count(7));
        Expect.fails("its text", Expect.ARGUMENT, () -> x.derive(0, 0));
        x.restore();
        Expect.is("the error position is not saved", 3, x::errorPosition);
        Expect.is("the buffer is not saved", 0, () -> x.count(7));
        Expect.fails("denied", Expect.DENIED, () -> x.request(1, 0, 1, 0));
        x.restore();
        Expect.same("the report is not saved", "1:0", Expect.reported(x));
        Expect.is("the count of denied ones is", 0, () -> x.count(5));
        Expect.is("the log is", 0, () -> x.count(6));
    }

    private static void promise37SaveReplaces() {
        CapabilityStore x = new CapabilityStore();
        Expect.is("save of nothing", 0, x::save);
        x.mint(0, 0, 15);
        Expect.is("save of one", 1, x::save);
        x.mint(0, 0, 15);
        Expect.is("restore", 1, x::restore);
        Expect.is("tokens", 1, () -> x.count(0));
        x.mint(0, 3, 15);
        Expect.is("restore again", 1, x::restore);
        Expect.is("tokens", 1, () -> x.count(0));
    }

    private static void promise38Restore() {
        CapabilityStore x = busy();
        Expect.fails("nothing was saved", Expect.STATE, x::restore);
        Expect.is("save", 5, x::save);
        x.mint(0, 2, 15);
        x.give(1, 4, 1);
        x.revoke(1, 1);
        x.request(0, 5, 2, 9);
        Expect.is("restore", 5, x::restore);
        Expect.is("living tokens", 4, () -> x.count(8));
        Expect.is("content", 0, () -> x.object(2, 0));
        x.pass(3);
        x.drop(1, 1);
        Expect.is("restore once more", 5, x::restore);
        Expect.is("the time", 7, () -> x.count(1));
        Expect.is("holders", 2, () -> x.holders(1));
        CapabilityStore other = new CapabilityStore();
        Expect.fails("another object has nothing saved", Expect.STATE, other::restore);
    }

    private static void promise38MoreAfterRestore() {
        CapabilityStore x = new CapabilityStore();
        x.mint(0, 7, 15);
        x.save();
        Expect.derive(x, 0, 0, "r1;t3;s0;n9");
        x.give(0, 3, 0);
        x.request(0, 1, 1, 0);
        x.revoke(0, 1);
        x.restore();
        Expect.is("the next token", 1, () -> x.mint(4, 2, 6));
        Expect.same("its text", "r6", Expect.described(x, 1));
        Expect.is("its holders", 16, () -> x.holders(1));
        Expect.is("its uses", 0, () -> x.token(1, 3));
        Expect.is("its parent", -1, () -> x.token(1, 1));
        Expect.is("its chain", 1, () -> x.token(1, 4));
        Expect.is("it is not revoked", 0, () -> x.token(1, 5));
        Expect.is("below the first", 1, () -> x.below(0));
        Expect.is("holders of the first", 1, () -> x.holders(0));
    }
}
