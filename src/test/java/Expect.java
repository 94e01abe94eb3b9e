/** What the tests share: calls with the answer or the exception that is due, and short ways to say them. */
final class Expect {
    static final Class<? extends RuntimeException> INDEX = IndexOutOfBoundsException.class;
    static final Class<? extends RuntimeException> ARGUMENT = IllegalArgumentException.class;
    static final Class<? extends RuntimeException> STATE = IllegalStateException.class;
    static final Class<? extends RuntimeException> DENIED = UnsupportedOperationException.class;
    static final Class<? extends RuntimeException> ELEMENT = java.util.NoSuchElementException.class;

    interface Call {
        long answer();
    }

    /** A call on a store that is yet to be made. */
    interface CallOn {
        long answer(CapabilityStore x);
    }

    private static int checks = 0;
    private static int wrong = 0;

    private Expect() {
    }

    static void is(String call, long want, Call made) {
        String got = outcome(made);
        tell(call, got, Long.toString(want));
    }

    static void is(String call, boolean want, boolean got) {
        tell(call, Boolean.toString(got), Boolean.toString(want));
    }

    static void fails(String call, Class<? extends RuntimeException> want, Call made) {
        tell(call, outcome(made), want.getName());
    }

    static void same(String what, String want, String got) {
        tell(what, got, want);
    }

    /** The answer, or the name of just the class that was thrown: one that the machine throws is another one. */
    static String outcome(Call made) {
        try {
            return Long.toString(made.answer());
        } catch (RuntimeException e) {
            return e.getClass().getName();
        }
    }

    private static void tell(String call, String got, String want) {
        checks++;
        if (!got.equals(want)) {
            wrong++;
            System.out.println(call + " answered " + got + ", due is " + want);
        }
    }

    static void finish() {
        System.out.println(checks + " checks, " + wrong + " wrong");
        if (wrong != 0) {
            System.exit(1);
        }
    }

    /** Puts a text into the buffer, up to four characters a call. */
    static void put(CapabilityStore x, String text) {
        for (int i = 0; i < text.length(); i += 4) {
            x.append(packed(text.substring(i, Math.min(i + 4, text.length()))));
        }
    }

    static int packed(String text) {
        int packed = 0;
        for (int i = 0; i < text.length(); i++) {
            packed = packed << 8 | text.charAt(i);
        }
        return packed;
    }

    static int derive(CapabilityStore x, int subject, int token, String text) {
        put(x, text);
        return x.derive(subject, token);
    }

    static String described(CapabilityStore x, int token) {
        StringBuilder text = new StringBuilder();
        int length = x.describe(token, -1);
        for (int i = 0; i < length; i++) {
            text.append((char) x.describe(token, i));
        }
        return text.toString();
    }

    /** The report as "code:detail code:detail ..". */
    static String reported(CapabilityStore x) {
        StringBuilder text = new StringBuilder();
        for (int level = 0; level < x.levels(); level++) {
            if (level > 0) {
                text.append(' ');
            }
            text.append(x.report(level, 0)).append(':').append(x.report(level, 1));
        }
        return text.toString();
    }
}
