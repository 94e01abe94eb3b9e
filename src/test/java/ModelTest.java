/** All promises: long runs of calls that differ by a fixed seed, each answered by the class and by the model. */
public final class ModelTest {
    private static final int RUNS = 600;
    /** Nothing is promised of an object after so many calls. */
    private static final int CALLS = 512;
    private static final String[] NUMBERS = {"0", "1", "2", "3", "5", "6", "9", "12", "15", "16", "20", "60", "200", "999", "1000"};

    private static long seed;
    private static CapabilityStore x;
    private static Model m;
    private static int calls;

    public static void main(String[] args) {
        for (int run = 0; run < RUNS; run++) {
            seed = 7919L * run + 1;
            x = new CapabilityStore();
            m = new Model();
            int style = run % 8;
            calls = 0;
            while (calls < CALLS - 100) {
                oneCall("run " + run + ", call " + calls + ", ", style);
            }
            lastCalls("run " + run + ", last calls, ");
        }
        Expect.finish();
    }

    /** A number from 0 up to below the bound, by a fixed rule. */
    private static int pick(int bound) {
        seed = seed * 6364136223846793005L + 1442695040888963407L;
        return (int) ((seed >>> 33) % bound);
    }

    /** Mostly a number below the bound, at times one at its edges or far off. */
    private static int near(int bound) {
        int odd = pick(40);
        if (odd == 0) {
            return bound;
        }
        if (odd == 1) {
            return -1;
        }
        if (odd == 2) {
            return pick(2) == 0 ? Integer.MIN_VALUE : Integer.MAX_VALUE;
        }
        return bound == 0 ? 0 : pick(bound);
    }

    private static void both(String call, Expect.Call ofClass, Expect.Call ofModel) {
        calls++;
        if (calls > CALLS) {
            return;
        }
        String due = Expect.outcome(ofModel);
        Expect.same(call, due, Expect.outcome(ofClass));
    }

    private static int tokenNear() {
        // The newest ones make the longer chains.
        int all = m.tokens.size();
        return all > 6 && pick(3) == 0 ? all - 1 - pick(4) : near(all);
    }

    private static int holderOf(int token) {
        boolean there = token >= 0 && token < m.tokens.size() && !m.tokens.get(token).holders.isEmpty();
        return there && pick(4) != 0 ? m.tokens.get(token).holders.first() : near(6);
    }

    private static String number() {
        return NUMBERS[pick(NUMBERS.length)];
    }

    private static String text() {
        StringBuilder text = new StringBuilder();
        int caveats = pick(20) == 0 ? 5 : 1 + pick(3);
        for (int c = 0; c < caveats; c++) {
            text.append(c > 0 ? ";" : "");
            int kind = pick(8);
            if (kind <= 1) {
                text.append('r').append(pick(10) == 0 ? number() : Integer.toString(15 - pick(2) * pick(16)));
            } else if (kind == 2) {
                text.append('t').append(m.time + pick(80));
            } else if (kind == 3 && pick(2) == 0) {
                text.append('s').append(pick(10) == 0 ? number() : Integer.toString(pick(6)));
            } else if (kind <= 4) {
                text.append('n').append(number());
            } else {
                text.append('a').append(pick(12) == 0 ? number() : Integer.toString(pick(30))).append('-').append(number());
            }
        }
        if (pick(12) == 0) {
            text.setCharAt(pick(text.length()), (char) (33 + pick(94)));
        }
        if (pick(12) == 0) {
            text.setLength(pick(text.length() + 1));
        }
        return text.toString();
    }

    private static void put(String where) {
        String text = text();
        for (int i = 0; i < text.length(); i += 4) {
            int packed = Expect.packed(text.substring(i, Math.min(text.length(), i + 4)));
            both(where + "append " + text, () -> x.append(packed), () -> m.append(packed));
        }
    }

    private static void oneCall(String where, int style) {
        int kind = pick(style < 4 ? 14 : 17);
        if (kind <= 1) {
            mint(where, style);
        } else if (kind <= 4) {
            derive(where);
        } else if (kind <= 6) {
            give(where);
        } else if (kind == 7) {
            dropOrRevoke(where, style);
        } else if (kind <= 10) {
            request(where);
        } else if (kind == 11) {
            time(where, style);
        } else if (kind == 12) {
            look(where);
        } else if (kind == 13) {
            reach(where);
        } else {
            box(where);
        }
    }

    private static void mint(String where, int style) {
        if (pick(style % 2 == 0 ? 3 : 1) != 0) {
            reach(where);
            return;
        }
        int subject = near(6);
        int object = pick(3) == 0 ? near(12) : pick(6);
        int rights = pick(2) == 0 ? 15 : near(16);
        both(where + "mint", () -> x.mint(subject, object, rights), () -> m.mint(subject, object, rights));
    }

    private static void derive(String where) {
        if (pick(8) != 0) {
            put(where);
        }
        int token = tokenNear();
        int subject = holderOf(token);
        both(where + "derive", () -> x.derive(subject, token), () -> m.derive(subject, token));
        both(where + "errorPosition", x::errorPosition, m::errorPosition);
    }

    private static void give(String where) {
        int token = tokenNear();
        int from = holderOf(token);
        int to = near(6);
        both(where + "give", () -> x.give(from, to, token), () -> m.give(from, to, token));
        sameReport(where);
    }

    private static void dropOrRevoke(String where, int style) {
        int token = tokenNear();
        int subject = holderOf(token);
        if (pick(2) == 0) {
            both(where + "drop", () -> x.drop(subject, token), () -> m.drop(subject, token));
        } else if (style % 2 == 0 || pick(3) == 0) {
            both(where + "revoke", () -> x.revoke(subject, token), () -> m.revoke(subject, token));
            sameReport(where);
        }
    }

    private static void request(String where) {
        int token = tokenNear();
        int subject = holderOf(token);
        int right = pick(12) == 0 ? near(9) : new int[] {1, 2, 8}[pick(3)];
        int argument = pick(2) == 0 ? pick(30) : near(1000);
        both(where + "request", () -> x.request(subject, token, right, argument),
                () -> m.request(subject, token, right, argument));
        sameReport(where);
    }

    private static void sameReport(String where) {
        both(where + "levels", x::levels, m::levels);
        for (int l = 0; l <= m.levels(); l++) {
            int level = l;
            both(where + "code", () -> x.report(level, 0), () -> m.report(level, 0));
            both(where + "detail", () -> x.report(level, 1), () -> m.report(level, 1));
        }
    }

    private static void time(String where, int style) {
        int kind = pick(6);
        if (kind == 0) {
            both(where + "save", x::save, m::save);
        } else if (kind == 1) {
            both(where + "restore", x::restore, m::restore);
        } else {
            int units = pick(20) == 0 ? near(101) : 1 + pick(style % 4 == 3 ? 100 : 9);
            both(where + "pass", () -> x.pass(units), () -> m.pass(units));
            for (int i = -1; i <= m.expired.size(); i++) {
                int index = i;
                both(where + "expired", () -> x.expired(index), () -> m.expired(index));
            }
        }
    }

    private static void look(String where) {
        int token = tokenNear();
        int what = near(7);
        int number = near(4);
        int index = near(12) - 1;
        both(where + "token", () -> x.token(token, what), () -> m.token(token, what));
        both(where + "caveat", () -> x.caveat(token, number, what), () -> m.caveat(token, number, what));
        both(where + "describe", () -> x.describe(token, index), () -> m.describe(token, index));
        both(where + "left", () -> x.left(token, what), () -> m.left(token, what));
        both(where + "holders", () -> x.holders(token), () -> m.holders(token));
        both(where + "below", () -> x.below(token), () -> m.below(token));
        both(where + "ranked", () -> x.ranked(token), () -> m.ranked(token));
        int object = near(12);
        both(where + "object", () -> x.object(object, number), () -> m.object(object, number));
        int subject = near(6);
        both(where + "held", () -> x.held(subject), () -> m.held(subject));
        boolean allowed = pick(2) == 0;
        both(where + "logged", () -> x.logged(subject, allowed), () -> m.logged(subject, allowed));
        int entry = near(20);
        both(where + "log", () -> x.log(entry), () -> m.log(entry));
        int count = near(9);
        both(where + "count", () -> x.count(count), () -> m.count(count));
        int packed = pick(2) == 0 ? 0 : (int) seed;
        if (pick(4) == 0) {
            both(where + "append", () -> x.append(packed), () -> m.append(packed));
        }
    }

    private static void reach(String where) {
        int token = tokenNear();
        int subject = near(6);
        int objects = pick(3) == 0 ? near(4096) : 4095 & ~(1 << pick(12));
        switch (pick(5)) {
            case 0:
                both(where + "rights", () -> x.rights(subject, token), () -> m.rights(subject, token));
                break;
            case 1:
                both(where + "coming", () -> x.coming(subject), () -> m.coming(subject));
                break;
            case 2:
                both(where + "round", () -> x.round(subject, token), () -> m.round(subject, token));
                break;
            case 3:
                both(where + "reached", () -> x.reached(subject), () -> m.reached(subject));
                break;
            default:
                both(where + "isConfined", () -> x.isConfined(subject, objects) ? 1 : 0,
                        () -> m.isConfined(subject, objects) ? 1 : 0);
                break;
        }
    }

    private static void box(String where) {
        int from = near(6);
        int to = near(6);
        int pair = near(m.sealers.size());
        int box = near(m.boxes.size());
        boolean unsealer = pick(2) == 0;
        switch (pick(7)) {
            case 0:
                both(where + "makePair", () -> x.makePair(from), () -> m.makePair(from));
                break;
            case 1:
                both(where + "givePair", () -> x.givePair(from, to, pair, unsealer),
                        () -> m.givePair(from, to, pair, unsealer));
                break;
            case 2:
            case 3:
                int token = tokenNear();
                int subject = holderOf(token);
                both(where + "seal", () -> x.seal(subject, pair, token), () -> m.seal(subject, pair, token));
                break;
            case 4:
                both(where + "giveBox", () -> x.giveBox(from, to, box), () -> m.giveBox(from, to, box));
                break;
            case 5:
                both(where + "unseal", () -> x.unseal(from, box), () -> m.unseal(from, box));
                break;
            default:
                both(where + "pairOf", () -> x.pairOf(box), () -> m.pairOf(box));
                break;
        }
        sameReport(where);
    }

    /** A sweep over what the state shows. */
    private static void lastCalls(String where) {
        for (int c = 0; c <= 8; c++) {
            int what = c;
            both(where + "count", () -> x.count(what), () -> m.count(what));
        }
        for (int t = 0; t < m.tokens.size(); t++) {
            int token = t;
            both(where + "ranked", () -> x.ranked(token), () -> m.ranked(token));
            both(where + "token", () -> x.token(token, 5), () -> m.token(token, 5));
            both(where + "holders", () -> x.holders(token), () -> m.holders(token));
        }
        for (int s = 0; s < 6; s++) {
            int subject = s;
            both(where + "coming", () -> x.coming(subject), () -> m.coming(subject));
            both(where + "reached", () -> x.reached(subject), () -> m.reached(subject));
        }
    }
}
