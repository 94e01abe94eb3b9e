/** Promises 3, 4, 5 and 11: the buffer and the texts of caveats. */
public final class TextTest {
    public static void main(String[] args) {
        promise3Append();
        promise3AppendFull();
        promise4Derive();
        promise4DeriveThrows();
        promise4DeriveFull();
        promise5Errors();
        promise5ErrorStays();
        promise11Describe();
        Expect.finish();
    }

    private static void promise3Append() {
        CapabilityStore x = new CapabilityStore();
        Expect.is("append of nothing", 0, () -> x.append(0));
        Expect.is("append of r", 1, () -> x.append('r' << 24));
        Expect.is("append of 1", 2, () -> x.append('1' << 8));
        Expect.is("append of two with zeros between", 4, () -> x.append(';' << 24 | 't'));
        Expect.is("append of four", 8, () -> x.append(Expect.packed("12;s")));
        Expect.is("append of 3", 9, () -> x.append('3' << 16));
        Expect.is("count of them", 9, () -> x.count(7));
        x.mint(0, 0, 15);
        x.derive(0, 0);
        Expect.same("in their order", "r1;t12;s3", Expect.described(x, 1));
        x.append('~');
        x.append('!');
        int[] wrong = {32, 127, 128, 255, 1, 31};
        for (int sign : wrong) {
            for (int shift = 0; shift <= 24; shift += 8) {
                int packed = sign << shift;
                Expect.fails("append of " + sign + " at " + shift, Expect.ARGUMENT, () -> x.append(packed));
            }
            Expect.fails("one wrong among four", Expect.ARGUMENT, () -> x.append(Expect.packed("abc") << 8 | sign));
        }
        Expect.is("none of these went in", 2, () -> x.count(7));
        Expect.fails("append(-1)", Expect.ARGUMENT, () -> x.append(-1));
    }

    private static void promise3AppendFull() {
        CapabilityStore x = new CapabilityStore();
        for (int i = 1; i <= 9; i++) {
            int length = 4 * i;
            Expect.is("append", length, () -> x.append(Expect.packed("abcd")));
        }
        Expect.is("append", 37, () -> x.append('a'));
        Expect.fails("four do not fit", Expect.STATE, () -> x.append(Expect.packed("abcd")));
        Expect.is("none of them went in", 37, () -> x.count(7));
        Expect.is("three fit", 40, () -> x.append(Expect.packed("abc")));
        Expect.fails("none fits", Expect.STATE, () -> x.append('a'));
        Expect.fails("a wrong one is told first", Expect.ARGUMENT, () -> x.append(' '));
        Expect.is("nothing fits", 40, () -> x.append(0));
    }

    private static void promise4Derive() {
        CapabilityStore x = new CapabilityStore();
        x.mint(3, 9, 15);
        Expect.put(x, "a10-20;n7;s5;t999");
        Expect.is("derive", 1, () -> x.derive(3, 0));
        Expect.is("the buffer is empty", 0, () -> x.count(7));
        Expect.is("its parent", 0, () -> x.token(1, 1));
        Expect.is("its object", 9, () -> x.token(1, 0));
        Expect.is("its holders", 8, () -> x.holders(1));
        Expect.same("its text", "a10-20;n7;s5;t999", Expect.described(x, 1));
        Expect.is("no error", -1, x::errorPosition);
        Expect.is("nothing is asked for", 0, () -> x.count(6));
        x.mint(0, 1, 0);
        Expect.is("no right is needed", 3, () -> Expect.derive(x, 0, 2, "r0"));
        x.revoke(0, 2);
        Expect.is("nor that it is not revoked", 4, () -> Expect.derive(x, 0, 2, "r0"));
    }

    private static void promise4DeriveThrows() {
        CapabilityStore x = new CapabilityStore();
        x.mint(0, 0, 15);
        Expect.put(x, "r1");
        Expect.fails("derive by no subject", Expect.INDEX, () -> x.derive(6, 0));
        Expect.fails("derive by no subject", Expect.INDEX, () -> x.derive(-1, 0));
        Expect.fails("derive of no token", Expect.INDEX, () -> x.derive(0, 1));
        Expect.fails("derive of no token", Expect.INDEX, () -> x.derive(0, -1));
        Expect.is("the buffer is not empty", 2, () -> x.count(7));
        Expect.fails("derive of one not held", Expect.DENIED, () -> x.derive(1, 0));
        Expect.same("its report", "1:0", Expect.reported(x));
        Expect.is("the buffer is empty", 0, () -> x.count(7));
        Expect.put(x, "x");
        Expect.fails("derive of one not held, the text wrong", Expect.DENIED, () -> x.derive(1, 0));
        Expect.is("no text was read", -1, x::errorPosition);
        Expect.put(x, "r1;");
        Expect.fails("derive with an error", Expect.ARGUMENT, () -> x.derive(0, 0));
        Expect.is("the buffer is empty", 0, () -> x.count(7));
        Expect.is("no token", 1, () -> x.count(0));
        Expect.is("the next token", 1, () -> Expect.derive(x, 0, 0, "r1"));
    }

    private static void promise4DeriveFull() {
        CapabilityStore x = new CapabilityStore();
        x.mint(0, 0, 15);
        for (int t = 0; t < 6; t++) {
            Expect.derive(x, 0, t, "r15");
        }
        Expect.is("the longest chain", 7, () -> x.token(6, 4));
        Expect.fails("an error is told first", Expect.ARGUMENT, () -> Expect.derive(x, 0, 6, "r16"));
        Expect.is("its position", 1, x::errorPosition);
        Expect.fails("not held is told first", Expect.DENIED, () -> Expect.derive(x, 1, 6, "r16"));
        Expect.is("the position stays", 1, x::errorPosition);
        Expect.fails("the chain is full", Expect.STATE, () -> Expect.derive(x, 0, 6, "r1"));
        Expect.is("the text was read", -1, x::errorPosition);
        Expect.is("the buffer is empty", 0, () -> x.count(7));
        Expect.is("a shorter chain", 7, () -> Expect.derive(x, 0, 5, "r1"));
        for (int t = 8; t < 28; t++) {
            x.mint(0, 0, 0);
        }
        Expect.fails("an error is told first", Expect.ARGUMENT, () -> Expect.derive(x, 0, 0, ""));
        Expect.is("its position", 0, x::errorPosition);
        Expect.fails("there are 28", Expect.STATE, () -> Expect.derive(x, 0, 0, "r1"));
        Expect.is("the text was read", -1, x::errorPosition);
        Expect.is("the buffer is empty", 0, () -> x.count(7));
        Expect.is("still 28", 28, () -> x.count(0));
    }

    private static void error(String text, int due) {
        CapabilityStore x = new CapabilityStore();
        x.mint(0, 0, 15);
        Expect.put(x, text);
        if (due == -1) {
            Expect.is("derive with " + text, 1, () -> x.derive(0, 0));
            Expect.same("described again", text, Expect.described(x, 1));
        } else {
            Expect.fails("derive with " + text, Expect.ARGUMENT, () -> x.derive(0, 0));
        }
        Expect.is("the error in " + text, due, x::errorPosition);
        Expect.is("the buffer after " + text, 0, () -> x.count(7));
    }

    private static void promise5Errors() {
        String[] right = {
            "r0", "r15", "r9", "t0", "t999", "t10", "s0", "s5", "n0", "n999", "a0-0", "a0-999", "a999-999", "a5-5",
            "a9-10", "r1;r2;r3;r4", "a100-200;a100-200;a100-200;a100-200", "n1;t1", "s1;r15", "t100",
        };
        for (String text : right) {
            error(text, -1);
        }
        Object[][] wrong = {
            {"", 0}, {";", 0}, {"R1", 0}, {"x", 0}, {"1", 0}, {"-", 0},
            {"r", 1}, {"t", 1}, {"s", 1}, {"n", 1}, {"a", 1}, {"rr", 1}, {"r-1", 1}, {"r;", 1}, {"t:", 1}, {"t/", 1},
            {"r16", 1}, {"r99", 1}, {"r160", 1}, {"r1600", 1}, {"r16x", 1}, {"r999;x", 1}, {"s6", 1}, {"s10", 1},
            {"r00", 2}, {"r01", 2}, {"t007", 2}, {"s05", 2}, {"n0n1", 2}, {"t1000", 4}, {"n9999", 4}, {"t1x", 2},
            {"t12-", 3}, {"r1,", 2}, {"s1-2", 2},
            {"r1;", 3}, {"r1;;", 3}, {"r1;x", 3}, {"r1;r", 4}, {"r1;s6", 4},
            {"a1", 2}, {"a1;", 2}, {"a-", 1}, {"a1-", 3}, {"a1--", 3}, {"a1-x", 3}, {"a5-4", 3}, {"a5-4x", 3},
            {"a100-99", 5}, {"a0-00", 4}, {"a00-1", 2}, {"a1-1000", 6}, {"a1000-2", 4}, {"a1-2-3", 4},
            {"a500-4999", 5}, {"a400-4999", 8}, {"a500-100", 5},
            {"r1;r2;r3;r4;", 11}, {"r1;r2;r3;r4;r5", 11}, {"r1;r2;r3;r4x", 11}, {"r1;r2;r3;r", 10},
            {"r1;r2;r3;", 9}, {"r1;a9-8;x", 6},
        };
        for (Object[] w : wrong) {
            error((String) w[0], (Integer) w[1]);
        }
        error("t1;t2;t3;t4" + ";aaaaaaaaaaaaaaaaaaaaaaaaaaaa", 11);
        error("a100-200;a100-200;a100-200;a100-200;a100", 35);
    }

    private static void promise5ErrorStays() {
        CapabilityStore x = new CapabilityStore();
        x.mint(0, 0, 15);
        Expect.fails("derive with an error", Expect.ARGUMENT, () -> Expect.derive(x, 0, 0, "r1;"));
        Expect.is("its position", 3, x::errorPosition);
        x.append('r');
        x.request(0, 0, 1, 0);
        x.save();
        x.restore();
        Expect.is("it stays", 3, x::errorPosition);
        Expect.fails("no such subject", Expect.INDEX, () -> x.derive(6, 0));
        Expect.is("it stays", 3, x::errorPosition);
        Expect.fails("not held", Expect.DENIED, () -> x.derive(1, 0));
        Expect.is("it stays", 3, x::errorPosition);
        Expect.derive(x, 0, 0, "t1");
        Expect.is("a text without an error", -1, x::errorPosition);
    }

    private static void promise11Describe() {
        CapabilityStore x = new CapabilityStore();
        x.mint(0, 0, 10);
        Expect.same("a root's text", "r10", Expect.described(x, 0));
        Expect.derive(x, 0, 0, "t7;a0-10;s2;n100");
        Expect.is("its length", 16, () -> x.describe(1, -1));
        Expect.is("its first character", 't', () -> x.describe(1, 0));
        Expect.is("its last character", '0', () -> x.describe(1, 15));
        Expect.is("a hyphen", '-', () -> x.describe(1, 5));
        Expect.fails("behind the end", Expect.INDEX, () -> x.describe(1, 16));
        Expect.fails("before the beginning", Expect.INDEX, () -> x.describe(1, -2));
        Expect.fails("far before", Expect.INDEX, () -> x.describe(1, Integer.MIN_VALUE));
        Expect.fails("no such token", Expect.INDEX, () -> x.describe(2, -1));
        Expect.fails("no such token", Expect.INDEX, () -> x.describe(-1, -1));
        x.request(0, 0, 2, 5);
        Expect.same("a root's text then", "r10", Expect.described(x, 0));
    }
}
