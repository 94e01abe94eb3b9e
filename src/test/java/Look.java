import java.util.ArrayList;
import java.util.LinkedHashMap;
import java.util.List;
import java.util.Map;

/**
 * All that can be seen of a store, part by part. Each part is looked at on a store of its own that is made in the
 * same way, because some looks change the store, and because nothing is promised of a store after 512 calls.
 */
final class Look {
    /** Makes a store; each time one in the same state. */
    interface Maker {
        CapabilityStore make();
    }

    private interface Part {
        void see(CapabilityStore x, StringBuilder into);
    }

    private static final int TOKENS_A_PART = 7;
    private static final Map<Maker, Map<String, String>> SEEN = new LinkedHashMap<>();

    private Look() {
    }

    /** The names of the parts that a call changes, in their order, with blanks between them. */
    static String changed(Maker before, Maker after) {
        Map<String, String> was = SEEN.computeIfAbsent(before, Look::all);
        List<String> names = new ArrayList<>();
        for (Map.Entry<String, String> part : all(after).entrySet()) {
            if (!part.getValue().equals(was.get(part.getKey()))) {
                names.add(part.getKey());
            }
        }
        return String.join(" ", names);
    }

    /** A maker of stores in which a call was made, whatever came of it. */
    static Maker after(Maker before, Expect.CallOn call) {
        return () -> {
            CapabilityStore x = before.make();
            Expect.outcome(() -> call.answer(x));
            return x;
        };
    }

    private static Map<String, String> all(Maker maker) {
        Map<String, String> parts = new LinkedHashMap<>();
        parts.put("buffer", seen(maker, Look::buffer));
        parts.put("error", seen(maker, (x, into) -> into.append(x.errorPosition())));
        parts.put("report", seen(maker, (x, into) -> into.append(Expect.reported(x))));
        putState(parts, "", maker);
        Maker restored = () -> {
            CapabilityStore x = maker.make();
            Expect.outcome(x::restore);
            return x;
        };
        parts.put("hasSaved", seen(maker, (x, into) -> into.append(Expect.outcome(x::restore))));
        putState(parts, "saved-", restored);
        return parts;
    }

    /** The parts that save keeps. */
    private static void putState(Map<String, String> parts, String prefix, Maker maker) {
        parts.put(prefix + "time", seen(maker, (x, into) -> into.append(x.count(1))));
        parts.put(prefix + "tokens", tokens(maker));
        parts.put(prefix + "holding", seen(maker, Look::holding));
        parts.put(prefix + "revokers", seen(maker, Look::revokers));
        parts.put(prefix + "objects", seen(maker, Look::objects));
        parts.put(prefix + "expired", seen(maker, Look::expired));
        parts.put(prefix + "log", seen(maker, Look::log));
        parts.put(prefix + "pairs", seen(maker, Look::pairs));
        parts.put(prefix + "boxes", seen(maker, Look::boxes));
        parts.put(prefix + "inBoxes", seen(maker, Look::inBoxes));
    }

    private static String seen(Maker maker, Part part) {
        StringBuilder into = new StringBuilder();
        part.see(maker.make(), into);
        return into.toString();
    }

    private static void tell(StringBuilder into, Expect.Call call) {
        into.append(Expect.outcome(call)).append(' ');
    }

    /** The number of characters, and what derive reads in them. */
    private static void buffer(CapabilityStore x, StringBuilder into) {
        into.append(x.count(7)).append(' ');
        if (x.count(0) == 28) {
            // Restoring leaves the buffer, and makes room for tokens if there was room when it was saved.
            tell(into, x::restore);
        }
        if (x.count(0) < 27) {
            int root = x.mint(0, 0, 15);
            tell(into, () -> x.derive(0, root) - root);
            tell(into, x::errorPosition);
            into.append(x.count(0) > root + 1 ? Expect.described(x, root + 1) : "");
        }
    }

    private static String tokens(Maker maker) {
        StringBuilder into = new StringBuilder();
        int count = maker.make().count(0);
        into.append(count);
        for (int from = 0; from < count; from += TOKENS_A_PART) {
            CapabilityStore x = maker.make();
            for (int t = from; t < count && t < from + TOKENS_A_PART; t++) {
                token(x, t, into);
            }
        }
        CapabilityStore y = maker.make();
        for (int rank = 0; rank <= count; rank++) {
            int number = rank;
            tell(into, () -> y.ranked(number));
        }
        return into.append(y.count(8)).toString();
    }

    private static void token(CapabilityStore x, int token, StringBuilder into) {
        into.append('\n').append(Expect.described(x, token)).append(' ');
        for (int what = 0; what <= 6; what++) {
            into.append(x.token(token, what)).append(' ');
        }
        for (int what = 0; what <= 5; what++) {
            into.append(x.left(token, what)).append(' ');
        }
        for (int caveat = 0; caveat < x.token(token, 2); caveat++) {
            for (int what = 0; what <= 2; what++) {
                into.append(x.caveat(token, caveat, what)).append(' ');
            }
        }
        into.append(x.below(token));
    }

    private static void holding(CapabilityStore x, StringBuilder into) {
        int count = x.count(0);
        for (int t = 0; t < count; t++) {
            into.append(x.holders(t)).append(' ');
        }
        for (int s = 0; s < 6; s++) {
            into.append('\n').append(x.held(s)).append(' ').append(x.coming(s)).append(' ').append(x.reached(s));
            for (int t = 0; t < count; t++) {
                into.append(' ').append(x.rights(s, t));
            }
        }
    }

    /** Who revoked each token, as far as somebody holds it and can be told so. */
    private static void revokers(CapabilityStore x, StringBuilder into) {
        int count = x.count(0);
        for (int t = 0; t < count; t++) {
            int token = t;
            int holders = x.token(t, 5) == 1 ? x.holders(t) : 0;
            if (holders != 0) {
                tell(into, () -> x.request(Integer.numberOfTrailingZeros(holders), token, 1, 0));
                into.append(Expect.reported(x)).append('\n');
            }
        }
    }

    private static void objects(CapabilityStore x, StringBuilder into) {
        for (int o = 0; o < 12; o++) {
            for (int what = 0; what <= 2; what++) {
                into.append(x.object(o, what)).append(' ');
            }
        }
    }

    private static void expired(CapabilityStore x, StringBuilder into) {
        for (int i = 0; i <= 28; i++) {
            int index = i;
            tell(into, () -> x.expired(index));
        }
    }

    private static void log(CapabilityStore x, StringBuilder into) {
        for (int what = 4; what <= 6; what++) {
            into.append(x.count(what)).append(' ');
        }
        for (int i = 0; i <= 20; i++) {
            int index = i;
            tell(into, () -> x.log(index));
        }
        for (int s = 0; s < 6; s++) {
            into.append(x.logged(s, true)).append(' ').append(x.logged(s, false)).append(' ');
        }
    }

    /** Giving to itself tells the holders, and changes nothing but the report. */
    private static void pairs(CapabilityStore x, StringBuilder into) {
        int count = x.count(2);
        into.append(count).append(' ');
        for (int p = 0; p < count; p++) {
            for (int s = 0; s < 6; s++) {
                int pair = p;
                int subject = s;
                tell(into, () -> x.givePair(subject, subject, pair, false));
                tell(into, () -> x.givePair(subject, subject, pair, true));
            }
        }
    }

    private static void boxes(CapabilityStore x, StringBuilder into) {
        int count = x.count(3);
        into.append(count).append(' ');
        for (int b = 0; b < count; b++) {
            into.append(x.pairOf(b)).append(' ');
            for (int s = 0; s < 6; s++) {
                int box = b;
                int subject = s;
                tell(into, () -> x.giveBox(subject, subject, box));
            }
        }
    }

    private static void inBoxes(CapabilityStore x, StringBuilder into) {
        int count = x.count(3);
        for (int b = 0; b < count; b++) {
            for (int s = 0; s < 6; s++) {
                int box = b;
                int subject = s;
                tell(into, () -> x.unseal(subject, box));
            }
        }
    }
}
