/** The sentences about save and restore that name a boundary; promises 37 and 38. */
public final class SaveEdgeTest {
    private static final Look.Maker SAVED = SaveEdgeTest::savedBusy;

    public static void main(String[] args) {
        nothingSaved();
        saveOfNothingAndOfAll();
        everyChangeIsTakenBack();
        saveReplaces();
        itStaysSaved();
        saveChangesNothing();
        bufferErrorAndReportAreNotSaved();
        expiredOnesAreSaved();
        revokersAreSaved();
        thereIsRoomAgain();
        nothingStaysOfWhatIsGone();
        Expect.finish();
    }

    private static CapabilityStore savedBusy() {
        CapabilityStore x = RefusalTest.busy();
        x.save();
        return x;
    }

    /** "if nothing was saved", in a new object and in a used one. */
    private static void nothingSaved() {
        CapabilityStore x = new CapabilityStore();
        Expect.fails("restore at first", Expect.STATE, x::restore);
        x.mint(0, 0, 15);
        x.request(0, 0, 2, 9);
        Expect.fails("restore without save", Expect.STATE, x::restore);
        Expect.fails("once more", Expect.STATE, x::restore);
        Expect.is("all is there", 9, () -> x.object(0, 0));
        Expect.is("then save", 1, x::save);
        Expect.is("then restore", 1, x::restore);
    }

    /** "Returns the number of tokens." of an empty store and of a full one. */
    private static void saveOfNothingAndOfAll() {
        CapabilityStore x = new CapabilityStore();
        Expect.is("save of nothing", 0, x::save);
        for (int t = 0; t < 28; t++) {
            x.mint(t % 6, t % 12, t % 16);
        }
        x.makePair(0);
        x.seal(0, 0, 0);
        x.request(5, 5, 1, 0);
        x.pass(9);
        Expect.is("restore of nothing", 0, x::restore);
        for (int what = 0; what <= 8; what++) {
            int number = what;
            Expect.is("count(" + what + ")", 0, () -> x.count(number));
        }
        Expect.fails("no entry", Expect.ELEMENT, () -> x.log(0));
        for (int t = 0; t < 28; t++) {
            x.mint(5 - t % 6, 11 - t % 12, 15 - t % 16);
        }
        Expect.is("save of all", 28, x::save);
        x.revoke(5, 0);
        Expect.is("restore of all", 28, x::restore);
        Expect.is("living tokens", 28, () -> x.count(8));
        Expect.is("the last one's rights", 15 - 27 % 16, () -> x.left(27, 0));
        Expect.is("the last one's object", 11 - 27 % 12, () -> x.token(27, 0));
        Expect.fails("a 29th", Expect.STATE, () -> x.mint(0, 0, 0));
    }

    /**
     * "Saves everything but the buffer, the error position and the report": what each call changes, that nothing of
     * it is in what was saved before, and what is left of it after restore.
     */
    private static void everyChangeIsTakenBack() {
        change("mint", "tokens holding objects", "", x -> x.mint(2, 5, 1));
        change("append", "buffer", "buffer", x -> x.append('a'));
        change("derive", "buffer error tokens holding objects", "buffer error", x -> x.derive(0, 0));
        change("derive, denied", "buffer report", "buffer report", x -> x.derive(5, 0));
        change("give", "holding", "", x -> x.give(0, 4, 0));
        change("give, denied", "report", "report", x -> x.give(5, 4, 0));
        change("drop", "holding", "", x -> x.drop(3, 0));
        change("revoke", "tokens holding revokers", "", x -> x.revoke(1, 1));
        change("read", "tokens log", "", x -> x.request(0, 0, 1, 0));
        change("write", "tokens objects log", "", x -> x.request(0, 0, 2, 5));
        change("call", "tokens objects log", "", x -> x.request(0, 0, 8, 5));
        change("request, denied", "report log", "report", x -> x.request(2, 0, 1, 0));
        change("pass", "time expired", "", x -> x.pass(1));
        change("makePair", "pairs", "", x -> x.makePair(3));
        change("givePair, sealer", "pairs", "", x -> x.givePair(0, 2, 1, false));
        change("givePair, unsealer", "pairs", "", x -> x.givePair(0, 2, 1, true));
        change("seal", "boxes inBoxes", "", x -> x.seal(0, 1, 0));
        change("giveBox", "boxes", "", x -> x.giveBox(0, 3, 0));
        change("giveBox to one with the unsealer", "holding boxes inBoxes", "", x -> x.giveBox(0, 4, 0));
        change("unseal", "holding", "", x -> x.unseal(4, 1));
        change("restore", "", "", x -> x.restore());
        change("save", "", "", x -> x.save());
    }

    private static void change(String call, String changes, String stays, Expect.CallOn made) {
        Look.Maker changed = Look.after(SAVED, made);
        Expect.same("what is changed by " + call, changes, Look.changed(SAVED, changed));
        Look.Maker restored = Look.after(changed, x -> x.restore());
        Expect.same("what stays of " + call + " after restore", stays, Look.changed(SAVED, restored));
    }

    /** "replacing what was saved before". */
    private static void saveReplaces() {
        CapabilityStore x = new CapabilityStore();
        x.mint(0, 0, 15);
        Expect.is("save of one", 1, x::save);
        x.mint(1, 1, 15);
        x.request(0, 0, 2, 8);
        Expect.is("save of two", 2, x::save);
        x.mint(2, 2, 15);
        x.request(0, 0, 2, 9);
        Expect.is("restore of the latest", 2, x::restore);
        Expect.is("the content", 8, () -> x.object(0, 0));
        Expect.is("tokens", 2, () -> x.count(0));
        x.drop(0, 0);
        Expect.is("save of what is restored and changed", 2, x::save);
        x.mint(3, 3, 3);
        Expect.is("restore", 2, x::restore);
        Expect.is("the change is saved", 0, () -> x.held(0));
    }

    /** "it stays saved". */
    private static void itStaysSaved() {
        Look.Maker twice = Look.after(Look.after(Look.after(Look.after(SAVED, x -> x.mint(3, 3, 3)),
                x -> x.restore()), x -> x.request(0, 0, 2, 77)), x -> x.restore());
        Expect.same("what a second restore leaves", "", Look.changed(SAVED, twice));
        CapabilityStore x = savedBusy();
        for (int i = 0; i < 5; i++) {
            x.mint(0, 0, 1);
            x.drop(0, 0);
            Expect.is("restore again", 5, x::restore);
            Expect.is("tokens", 5, () -> x.count(0));
            Expect.is("holders", 9, () -> x.holders(0));
        }
    }

    /** What is saved changes, and nothing else: busy() has another state saved. */
    private static void saveChangesNothing() {
        Look.Maker busy = RefusalTest::busy;
        String changed = Look.changed(busy, Look.after(busy, x -> x.save()));
        for (String part : changed.split(" ")) {
            Expect.is(part + " is a saved part", true, part.startsWith("saved-") || part.equals("hasSaved"));
        }
        Expect.is("saved tokens are others", true, changed.contains("saved-tokens"));
        Expect.is("save", 5, () -> busy.make().save());
    }

    private static void bufferErrorAndReportAreNotSaved() {
        CapabilityStore x = new CapabilityStore();
        x.mint(0, 0, 15);
        Expect.fails("an error", Expect.ARGUMENT, () -> Expect.derive(x, 0, 0, "r1;s"));
        Expect.fails("a denial", Expect.DENIED, () -> x.request(1, 0, 1, 0));
        Expect.put(x, "r7");
        x.save();
        x.restore();
        Expect.is("the buffer stays", 2, () -> x.count(7));
        Expect.is("the error position stays", 4, x::errorPosition);
        Expect.same("the report stays", "1:0", Expect.reported(x));
        Expect.is("the text is derived", 1, () -> x.derive(0, 0));
        Expect.fails("another denial", Expect.DENIED, () -> x.request(0, 1, 8, 0));
        x.restore();
        Expect.is("the buffer does not come back", 0, () -> x.count(7));
        Expect.is("nor does the error position", -1, x::errorPosition);
        Expect.same("nor does the report", "4:1 10:0 20:8", Expect.reported(x));
        Expect.put(x, "r3;t1");
        x.restore();
        Expect.is("the buffer does not go", 5, () -> x.count(7));
        x.derive(0, 0);
        Expect.same("its text", "r3;t1", Expect.described(x, 1));
    }

    /** "the expired ones are those of the latest pass, none at first, and they are saved". */
    private static void expiredOnesAreSaved() {
        CapabilityStore x = new CapabilityStore();
        x.mint(0, 0, 15);
        x.save();
        Expect.derive(x, 0, 0, "t1");
        Expect.derive(x, 0, 0, "t2");
        x.pass(1);
        x.restore();
        Expect.fails("none, as it was", Expect.ELEMENT, () -> x.expired(0));
        Expect.derive(x, 0, 0, "t5");
        Expect.derive(x, 0, 0, "t3");
        Expect.derive(x, 0, 0, "t9");
        x.pass(5);
        x.save();
        x.pass(4);
        Expect.is("the third", 3, () -> x.expired(0));
        x.restore();
        Expect.is("the second", 2, () -> x.expired(0));
        Expect.is("the first", 1, () -> x.expired(1));
        Expect.fails("no more", Expect.ELEMENT, () -> x.expired(2));
        Expect.is("the third expires again", 1, () -> x.pass(4));
        x.restore();
        x.pass(1);
        x.save();
        x.restore();
        Expect.fails("none of the latest pass", Expect.ELEMENT, () -> x.expired(0));
    }

    private static void revokersAreSaved() {
        CapabilityStore x = new CapabilityStore();
        x.mint(0, 0, 15);
        x.give(0, 3, 0);
        x.save();
        Expect.is("revoked by 3", 1, () -> x.revoke(3, 0));
        x.restore();
        Expect.is("not revoked", 0, () -> x.token(0, 5));
        Expect.is("a request", 0, () -> x.request(3, 0, 1, 0));
        Expect.is("revoked by 0", 1, () -> x.revoke(0, 0));
        x.save();
        Expect.is("revoked already", 0, () -> x.revoke(3, 0));
        x.restore();
        Expect.fails("a request", Expect.DENIED, () -> x.request(3, 0, 1, 0));
        Expect.same("it was 0", "2:0 3:0", Expect.reported(x));
    }

    /** Limits are those of the restored state. */
    private static void thereIsRoomAgain() {
        CapabilityStore x = new CapabilityStore();
        x.mint(0, 0, 15);
        for (int t = 0; t < 5; t++) {
            Expect.derive(x, 0, t, "r15");
        }
        for (int t = 6; t < 27; t++) {
            x.mint(0, 0, 15);
        }
        for (int p = 0; p < 3; p++) {
            x.makePair(0);
        }
        for (int b = 0; b < 11; b++) {
            x.seal(0, 0, 0);
        }
        x.save();
        for (int i = 0; i < 2; i++) {
            Expect.is("the 28th token, the seventh of its chain", 27, () -> Expect.derive(x, 0, 5, "r15"));
            Expect.is("the fourth pair", 3, () -> x.makePair(0));
            Expect.is("the twelfth box", 11, () -> x.seal(0, 3, 27));
            Expect.fails("a 29th token", Expect.STATE, () -> x.mint(0, 0, 0));
            Expect.fails("a fifth pair", Expect.STATE, () -> x.makePair(0));
            Expect.fails("a 13th box", Expect.STATE, () -> x.seal(0, 0, 0));
            Expect.is("restore", 27, x::restore);
            Expect.fails("the 28th token is gone", Expect.INDEX, () -> x.token(27, 0));
            Expect.fails("the fourth pair is gone", Expect.INDEX, () -> x.givePair(0, 0, 3, true));
            Expect.fails("the twelfth box is gone", Expect.INDEX, () -> x.pairOf(11));
        }
    }

    /** What is made after restore under the same number has nothing of the one that was there. */
    private static void nothingStaysOfWhatIsGone() {
        CapabilityStore x = new CapabilityStore();
        x.mint(0, 7, 15);
        x.save();
        Expect.derive(x, 0, 0, "r3;t9;s0;n8");
        x.give(0, 5, 0);
        x.request(0, 1, 2, 6);
        x.makePair(0);
        x.givePair(0, 4, 0, true);
        x.seal(0, 0, 1);
        x.giveBox(0, 3, 0);
        x.revoke(0, 1);
        x.restore();
        Expect.is("the next token", 1, () -> x.mint(2, 9, 12));
        int[] due = {9, -1, 1, 0, 1, 0, 0};
        for (int what = 0; what <= 6; what++) {
            int number = what;
            Expect.is("token(1, " + what + ")", due[what], () -> x.token(1, number));
        }
        Expect.same("its text", "r12", Expect.described(x, 1));
        Expect.is("its holders", 4, () -> x.holders(1));
        Expect.is("below the first", 1, () -> x.below(0));
        Expect.is("holders of the first", 1, () -> x.holders(0));
        Expect.is("uses of the first", 0, () -> x.token(0, 3));
        Expect.is("content", 0, () -> x.object(7, 0));
        Expect.is("the next pair", 0, () -> x.makePair(2));
        Expect.is("its unsealer", 4, () -> x.givePair(2, 2, 0, true));
        Expect.is("the next box", 0, () -> x.seal(2, 0, 1));
        Expect.is("its holders", 4, () -> x.giveBox(2, 2, 0));
        Expect.is("its token", 1, () -> x.unseal(2, 0));
    }
}
