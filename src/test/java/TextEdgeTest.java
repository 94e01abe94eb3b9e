/** The sentences about the buffer and the texts of caveats that name a boundary; promises 3, 4, 5 and 11. */
public final class TextEdgeTest {
    public static void main(String[] args) {
        bytesInTheirOrder();
        zerosAreSkipped();
        charactersFrom33To126();
        atMost40Characters();
        oneToFourCaveats();
        firstCharacter();
        afterALetter();
        afterANumber();
        inARange();
        everyNumber();
        numbersOfSets();
        numbersOfSubjects();
        rangesInOrder();
        numbersFrom0();
        moreThanThreeDigits();
        tooEarlyAnEnd();
        theFirstErrorCounts();
        theBufferIsEmptyAfterwards();
        theErrorOfTheLatestReading();
        derivingNeedsHoldingAlone();
        describeEachKind();
        describeEachIndex();
        Expect.finish();
    }

    private static CapabilityStore rooted() {
        CapabilityStore x = new CapabilityStore();
        x.mint(0, 0, 15);
        return x;
    }

    /** A text without an error: it is derived, and described again. */
    private static void fine(String text) {
        CapabilityStore x = rooted();
        Expect.is("derive with " + text, 1, () -> Expect.derive(x, 0, 0, text));
        Expect.is("the error in " + text, -1, x::errorPosition);
        Expect.same("the text", text, Expect.described(x, 1));
    }

    /** A text with its first error at a position. */
    private static void wrong(String text, int position) {
        CapabilityStore x = rooted();
        Expect.fails("derive with " + text, Expect.ARGUMENT, () -> Expect.derive(x, 0, 0, text));
        Expect.is("the error in " + text, position, x::errorPosition);
        Expect.is("tokens after " + text, 1, () -> x.count(0));
        Expect.is("the buffer after " + text, 0, () -> x.count(7));
    }

    /** -1 for a text without an error. */
    private static void read(String text, int position) {
        if (position < 0) {
            fine(text);
        } else {
            wrong(text, position);
        }
    }

    // ---- append ----

    /** "the bytes of an int from the most significant one to the least significant one". */
    private static void bytesInTheirOrder() {
        CapabilityStore x = rooted();
        Expect.is("four", 4, () -> x.append('t' << 24 | '1' << 16 | '2' << 8 | '3'));
        Expect.is("two more", 6, () -> x.append(';' << 24 | 'r'));
        Expect.is("one more", 7, () -> x.append('5' << 16));
        x.derive(0, 0);
        Expect.same("the text", "t123;r5", Expect.described(x, 1));
    }

    /** "bytes that are 0 are skipped": each of the sixteen ways to place them. */
    private static void zerosAreSkipped() {
        for (int places = 0; places < 16; places++) {
            CapabilityStore x = rooted();
            int packed = 0;
            int characters = 0;
            StringBuilder text = new StringBuilder("t1");
            for (int shift = 24; shift >= 0; shift -= 8) {
                if ((places >>> shift / 8 & 1) != 0 && characters < 4) {
                    char sign = ";r12".charAt(characters);
                    packed |= sign << shift;
                    text.append(sign);
                    characters++;
                }
            }
            int all = packed;
            Expect.put(x, "t1");
            Expect.is("append of " + Integer.toHexString(all), 2 + characters, () -> x.append(all));
            int due = characters == 0 || characters > 2 ? -1 : 2 + characters;
            if (due == -1) {
                Expect.is("derive", 1, () -> x.derive(0, 0));
                Expect.same("the text", text.toString(), Expect.described(x, 1));
            } else {
                Expect.fails("derive of " + text, Expect.ARGUMENT, () -> x.derive(0, 0));
                Expect.is("the error in " + text, due, x::errorPosition);
            }
        }
        CapabilityStore y = rooted();
        Expect.is("nothing but zeros", 0, () -> y.append(0));
    }

    /** "if a byte that is not 0 is not from 33 to 126": every byte, at every place. */
    private static void charactersFrom33To126() {
        for (int shift = 0; shift <= 24; shift += 8) {
            for (int sign = 0; sign <= 255; sign++) {
                CapabilityStore x = rooted();
                int packed = sign << shift;
                if (sign == 0) {
                    Expect.is("append of 0", 0, () -> x.append(packed));
                } else if (sign >= 33 && sign <= 126) {
                    Expect.is("append of " + sign, 1, () -> x.append(packed));
                } else {
                    Expect.fails("append of " + sign, Expect.ARGUMENT, () -> x.append(packed));
                    Expect.is("characters then", 0, () -> x.count(7));
                }
            }
        }
        CapabilityStore y = rooted();
        Expect.fails("the last one wrong", Expect.ARGUMENT, () -> y.append(Expect.packed("abc") << 8 | 127));
        Expect.fails("the first one wrong", Expect.ARGUMENT, () -> y.append(32 << 24 | Expect.packed("abc")));
        Expect.is("nothing of it is in the buffer", 0, () -> y.count(7));
        Expect.is("the least and the greatest", 2, () -> y.append(33 << 8 | 126));
    }

    /** "A buffer holds at most 40 characters": from each length, each number more. */
    private static void atMost40Characters() {
        String four = "abcd";
        for (int length = 35; length <= 40; length++) {
            for (int more = 0; more <= 4; more++) {
                CapabilityStore x = rooted();
                Expect.put(x, "1234567890123456789012345678901234567890".substring(0, length));
                int before = length;
                int after = length + more;
                int packed = Expect.packed(four.substring(0, more));
                Expect.is("characters", before, () -> x.count(7));
                if (after <= 40) {
                    Expect.is("append of " + more + " to " + length, after, () -> x.append(packed));
                    Expect.is("characters then", after, () -> x.count(7));
                } else {
                    Expect.fails("append of " + more + " to " + length, Expect.STATE, () -> x.append(packed));
                    Expect.is("none of them is in the buffer", before, () -> x.count(7));
                }
            }
        }
        CapabilityStore y = rooted();
        Expect.put(y, "1234567890123456789012345678901234567890");
        Expect.fails("a wrong one", Expect.ARGUMENT, () -> y.append(' '));
        Expect.fails("a wrong one after a right one", Expect.ARGUMENT, () -> y.append('a' << 8 | 31));
        Expect.fails("derive empties it", Expect.ARGUMENT, () -> y.derive(0, 0));
        Expect.is("then there is room", 4, () -> y.append(Expect.packed("abcd")));
    }

    // ---- texts ----

    /** "It can describe 1 to 4 caveats"; "also the semicolon before a fifth caveat". */
    private static void oneToFourCaveats() {
        wrong("", 0);
        fine("r1");
        fine("r1;r2");
        fine("r1;r2;r3");
        fine("r1;r2;r3;r4");
        wrong("r1;r2;r3;r4;r5", 11);
        wrong("r1;r2;r3;r4;", 11);
        wrong("r1;r2;r3;r4;;", 11);
        fine("a100-200;a300-400;a500-600;a700-800");
        wrong("a100-200;a300-400;a500-600;a700-800;r1", 35);
        for (int n = 1; n <= 4; n++) {
            CapabilityStore x = rooted();
            int caveats = n;
            Expect.derive(x, 0, 0, "n1;n2;n3;n4".substring(0, 3 * n - 1));
            Expect.is("caveats", n, () -> x.token(1, 2));
            Expect.is("the last one's number", n, () -> x.caveat(1, caveats - 1, 1));
        }
    }

    /** "The letters stand for the kinds 0 to 4": every other character is not allowed there. */
    private static void firstCharacter() {
        for (char c = 33; c <= 126; c++) {
            boolean letter = "rtsna".indexOf(c) >= 0;
            wrong("" + c, letter ? 1 : 0);
            wrong("r1;" + c, letter ? 4 : 3);
            wrong(c + "x", letter ? 1 : 0);
        }
        String[] texts = {"r1", "t1", "s1", "n1", "a1-1"};
        for (int kind = 0; kind <= 4; kind++) {
            CapabilityStore x = rooted();
            int due = kind;
            Expect.derive(x, 0, 0, texts[kind]);
            Expect.is("the kind of " + texts[kind], due, () -> x.caveat(1, 0, 0));
        }
    }

    private static void afterALetter() {
        for (char letter : "rtsna".toCharArray()) {
            for (char c = 33; c <= 126; c++) {
                boolean digit = c >= '0' && c <= '9';
                boolean tooGreat = letter == 's' && c >= '6';
                int error = !digit || tooGreat ? 1 : letter == 'a' ? 2 : -1;
                read("" + letter + c, error);
            }
        }
    }

    private static void afterANumber() {
        for (char c = 33; c <= 126; c++) {
            boolean digit = c >= '0' && c <= '9';
            read("t1" + c, digit ? -1 : c == ';' ? 3 : 2);
            read("r1" + c, digit ? (c <= '5' ? -1 : 1) : c == ';' ? 3 : 2);
            read("t12" + c, digit ? -1 : c == ';' ? 4 : 3);
            wrong("t123" + c, c == ';' ? 5 : 4);
            wrong("n0" + c, c == ';' ? 3 : 2);
            read("a1-2" + c, digit ? -1 : c == ';' ? 5 : 4);
        }
    }

    private static void inARange() {
        for (char c = 33; c <= 126; c++) {
            boolean digit = c >= '0' && c <= '9';
            wrong("a1" + c, c == '-' || digit ? 3 : 2);
            read("a0-" + c, digit ? -1 : 3);
            read("a1-" + c, digit && c != '0' ? -1 : 3);
            wrong("a0" + c, c == '-' ? 3 : 2);
            wrong("a123" + c, c == '-' ? 5 : 4);
        }
    }

    /** "one to three digits that do not start with 0, or 0 alone": every such number, and every value of its caveat. */
    private static void everyNumber() {
        for (int number = 0; number <= 999; number++) {
            int due = number;
            CapabilityStore x = rooted();
            Expect.is("derive", 1, () -> Expect.derive(x, 0, 0, "t" + due + ";n" + due + ";a" + due + "-" + due));
            Expect.is("the time", due, () -> x.caveat(1, 0, 1));
            Expect.is("the uses", due, () -> x.caveat(1, 1, 1));
            Expect.is("the beginning", due, () -> x.caveat(1, 2, 1));
            Expect.is("the end", due, () -> x.caveat(1, 2, 2));
        }
    }

    /** "A set of rights is from 0 to 15"; "at the first digit of a number that is out of range". */
    private static void numbersOfSets() {
        for (int number = 0; number <= 999; number++) {
            read("r" + number, number <= 15 ? -1 : 1);
        }
        wrong("t1;r16", 4);
        wrong("r16;t1", 1);
        wrong("r100", 1);
        wrong("r16x", 1);
        wrong("r16;", 1);
    }

    /** "a subject from 0 to 5". */
    private static void numbersOfSubjects() {
        for (int number = 0; number <= 999; number++) {
            read("s" + number, number <= 5 ? -1 : 1);
        }
        wrong("t1;s6", 4);
        wrong("s6;t1", 1);
        wrong("s5x", 2);
        wrong("s6x", 1);
    }

    /** "the first number of a range is at most the second one"; the error "for a range is the second one". */
    private static void rangesInOrder() {
        for (int first : new int[] {0, 1, 9, 10, 99, 100, 500, 998, 999}) {
            for (int second : new int[] {0, 1, 8, 9, 10, 11, 98, 99, 100, 101, 499, 500, 501, 997, 998, 999}) {
                int length = Integer.toString(first).length();
                read("a" + first + "-" + second, first <= second ? -1 : 2 + length);
            }
        }
        wrong("r1;a7-6;q", 6);
        wrong("a7-6x", 3);
        wrong("a7-7x", 4);
    }

    /** "that do not start with 0, or 0 alone", "one only if it is 0". */
    private static void numbersFrom0() {
        String[] zeros = {"00", "01", "09", "007", "012", "000"};
        for (String zero : zeros) {
            for (char letter : "rtsn".toCharArray()) {
                wrong(letter + zero, 2);
            }
            wrong("a" + zero + "-9", 2);
            wrong("a0-" + zero, 4);
            wrong("a1-" + zero, 3);
        }
        fine("r0;t0;s0;n0");
        fine("a0-0;r1");
        fine("t100;t200;t900;t10");
    }

    /** "Up to three digits of a number are read .. and then it is looked whether it is in range." */
    private static void moreThanThreeDigits() {
        wrong("t1000", 4);
        wrong("t9999", 4);
        wrong("n10000", 4);
        wrong("r1000", 1);
        wrong("r0016", 2);
        wrong("s1000", 1);
        wrong("a1000-1001", 4);
        wrong("a1-1000", 6);
        wrong("a100-1000", 8);
        wrong("a101-1000", 5);
        wrong("a999-9999", 8);
        wrong("a999-9989", 5);
        wrong("t1;t1000", 7);
        fine("t100;t999");
    }

    /** "at the length of the text if it ends too early". */
    private static void tooEarlyAnEnd() {
        String whole = "a10-20;t30;s4;r12";
        int[] ends = {6, 9, 10, 13, 16, 17};
        for (int length = 0; length <= whole.length(); length++) {
            boolean end = false;
            for (int e : ends) {
                end |= e == length;
            }
            if (length == 5) {
                wrong("a10-2", 4);
            } else {
                read(whole.substring(0, length), end ? -1 : length);
            }
        }
        wrong("a10-", 4);
        wrong("a10", 3);
        wrong("n999;", 5);
        wrong("n1;n2;n3;", 9);
    }

    /** "The text is read from left to right, and the first error is reported". */
    private static void theFirstErrorCounts() {
        wrong("r16;s6;a2-1;x", 1);
        wrong("r15;s6;a2-1;x", 5);
        wrong("r15;s5;a2-1;x", 10);
        wrong("r15;s5;a2-2;x", 12);
        wrong("x;r16", 0);
        wrong("r1x;r16", 2);
        wrong("r1 r2".replace(' ', ','), 2);
        wrong("t01;s6", 2);
        wrong("R1", 0);
        wrong("r1;T2", 3);
        wrong("r+1", 1);
        wrong("r-1", 1);
        wrong("a1--2", 3);
        wrong("a-1-2", 1);
        wrong(";r1", 0);
        wrong("r1;;r2", 3);
        wrong("r1-2", 2);
        wrong("a1;r2", 2);
        wrong("a1-2-3", 4);
        wrong("1234567890123456789012345678901234567890", 0);
    }

    // ---- derive and errorPosition ----

    /** "The buffer is empty afterwards, also if an exception is thrown, except for IndexOutOfBoundsException." */
    private static void theBufferIsEmptyAfterwards() {
        CapabilityStore x = rooted();
        Expect.put(x, "r1");
        Expect.fails("no such subject", Expect.INDEX, () -> x.derive(6, 0));
        Expect.is("after it", 2, () -> x.count(7));
        Expect.fails("no such token", Expect.INDEX, () -> x.derive(0, 1));
        Expect.is("after it", 2, () -> x.count(7));
        Expect.is("the text that is still there", 1, () -> x.derive(0, 0));
        Expect.is("after a success", 0, () -> x.count(7));
        Expect.fails("the empty buffer", Expect.ARGUMENT, () -> x.derive(0, 0));
        Expect.is("the error of an empty text", 0, x::errorPosition);
        Expect.put(x, "r1");
        Expect.fails("not held", Expect.DENIED, () -> x.derive(5, 0));
        Expect.is("after it", 0, () -> x.count(7));
        Expect.is("the error position stays", 0, x::errorPosition);
        Expect.put(x, "r1;");
        Expect.fails("an error", Expect.ARGUMENT, () -> x.derive(0, 0));
        Expect.is("after it", 0, () -> x.count(7));
        for (int t = 1; t < 6; t++) {
            Expect.derive(x, 0, t, "r1");
        }
        Expect.put(x, "r1;;");
        Expect.fails("an error and a full chain", Expect.ARGUMENT, () -> x.derive(0, 6));
        Expect.is("after it", 0, () -> x.count(7));
        Expect.put(x, "t5");
        Expect.fails("a full chain", Expect.STATE, () -> x.derive(0, 6));
        Expect.is("after it", 0, () -> x.count(7));
        Expect.is("what is appended then stands alone", 2, () -> x.append(Expect.packed("r7")));
        x.derive(0, 0);
        Expect.same("the text", "r7", Expect.described(x, 7));
    }

    /** "Returns the index of the character, or -1 if that text had no error or no text was read." */
    private static void theErrorOfTheLatestReading() {
        CapabilityStore x = new CapabilityStore();
        Expect.is("no text was read", -1, x::errorPosition);
        Expect.put(x, "r1;x");
        Expect.fails("no such token", Expect.INDEX, () -> x.derive(0, 0));
        Expect.is("no text was read", -1, x::errorPosition);
        x.mint(0, 0, 15);
        Expect.fails("not held", Expect.DENIED, () -> x.derive(1, 0));
        Expect.is("no text was read", -1, x::errorPosition);
        Expect.fails("an error", Expect.ARGUMENT, () -> Expect.derive(x, 0, 0, "r1;x"));
        Expect.is("its position", 3, x::errorPosition);
        Expect.fails("another error", Expect.ARGUMENT, () -> Expect.derive(x, 0, 0, "r"));
        Expect.is("its position", 1, x::errorPosition);
        Expect.fails("not held", Expect.DENIED, () -> Expect.derive(x, 1, 0, "r1;x"));
        Expect.is("it stays", 1, x::errorPosition);
        Expect.fails("no such token", Expect.INDEX, () -> Expect.derive(x, 0, 9, "t1"));
        Expect.is("it stays", 1, x::errorPosition);
        Expect.is("a text without an error", 1, () -> x.derive(0, 0));
        Expect.is("no error", -1, x::errorPosition);
        Expect.fails("another error", Expect.ARGUMENT, () -> Expect.derive(x, 0, 0, "r1;r16"));
        Expect.is("its position", 4, x::errorPosition);
        x.save();
        x.append('r');
        x.pass(1);
        x.restore();
        Expect.is("it stays", 4, x::errorPosition);
        for (int t = 2; t < 28; t++) {
            x.mint(0, 0, 15);
        }
        Expect.fails("a full store", Expect.STATE, () -> {
            x.append('1');
            return x.derive(0, 0);
        });
        Expect.is("the text was read and had no error", -1, x::errorPosition);
    }

    /** "deriving and sealing ask for nothing but holding". */
    private static void derivingNeedsHoldingAlone() {
        CapabilityStore x = new CapabilityStore();
        x.mint(0, 0, 0);
        Expect.is("without a right", 1, () -> Expect.derive(x, 0, 0, "s3;t0;n0;a1-1"));
        Expect.is("where nothing holds", 2, () -> Expect.derive(x, 0, 1, "r15"));
        x.revoke(0, 0);
        Expect.is("revoked", 3, () -> Expect.derive(x, 0, 0, "r15"));
        Expect.is("revoked above", 4, () -> Expect.derive(x, 0, 2, "r15"));
        Expect.is("it is revoked above, too", 1, () -> x.token(4, 5));
        Expect.is("held by the subject", 31, () -> x.held(0));
        Expect.is("by it alone", 1, () -> x.holders(4));
        Expect.is("nothing is logged", 0, () -> x.count(4) + x.count(5) + x.count(6));
        Expect.is("nothing is used", 0, () -> x.token(0, 3));
        x.mint(0, 1, 15);
        x.give(0, 2, 5);
        x.drop(0, 5);
        Expect.fails("one that held it", Expect.DENIED, () -> Expect.derive(x, 0, 5, "r1"));
        Expect.same("its report", "1:5", Expect.reported(x));
        Expect.is("one that holds it now", 6, () -> Expect.derive(x, 2, 5, "r1"));
        Expect.fails("holding the lower one is not enough", Expect.DENIED, () -> {
            x.drop(2, 5);
            return Expect.derive(x, 2, 5, "r1");
        });
        Expect.is("the lower one itself", 7, () -> Expect.derive(x, 2, 6, "r1"));
    }

    // ---- describe ----

    /** "as derive reads it": numbers of one, two and three digits, of each kind. */
    private static void describeEachKind() {
        for (String text : new String[] {"r0", "r9", "r10", "r15", "t0", "t9", "t10", "t99", "t100", "t999", "s0", "s5",
            "n0", "n99", "n100", "n999", "a0-0", "a0-999", "a9-10", "a99-100", "a999-999"}) {
            fine(text);
            fine("n7;" + text);
            fine(text + ";s2");
        }
    }

    /** "or its length"; "index is not -1 and there is no such index". */
    private static void describeEachIndex() {
        CapabilityStore x = rooted();
        String text = "a100-200;a300-400;a500-600;a700-800";
        Expect.derive(x, 0, 0, text);
        Expect.is("the length", 35, () -> x.describe(1, -1));
        for (int i = 0; i < 35; i++) {
            int index = i;
            Expect.is("describe(1, " + i + ")", text.charAt(i), () -> x.describe(1, index));
        }
        Expect.fails("behind the end", Expect.INDEX, () -> x.describe(1, 35));
        Expect.fails("before the length", Expect.INDEX, () -> x.describe(1, -2));
        x.mint(0, 0, 0);
        Expect.is("the length of a root's text", 2, () -> x.describe(2, -1));
        Expect.is("its first", 'r', () -> x.describe(2, 0));
        Expect.is("its last", '0', () -> x.describe(2, 1));
        Expect.fails("behind its end", Expect.INDEX, () -> x.describe(2, 2));
    }
}
