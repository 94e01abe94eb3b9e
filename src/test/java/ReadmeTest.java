import java.io.ByteArrayOutputStream;
import java.io.PrintStream;
import java.lang.reflect.Method;
import java.lang.reflect.Modifier;
import java.nio.charset.StandardCharsets;
import java.nio.file.Files;
import java.nio.file.Path;
import java.util.ArrayList;
import java.util.List;

/** README.md: the lines of its examples stand here, in their order, and answer what it says. */
public final class ReadmeTest {
    private static final String README = "README.md";
    private static final String HERE = "src/test/java/ReadmeTest.java";

    public static void main(String[] args) throws Exception {
        PrintStream out = System.out;
        ByteArrayOutputStream printed = new ByteArrayOutputStream();
        System.setOut(new PrintStream(printed, true, StandardCharsets.UTF_8));
        int[] got = examples();
        System.setOut(out);
        int[] due = {0, 1, 2, 0, 42, 3010, 0, 0, 17, 17, 1, 128, 1, 2, 2, 1, 2, 1};
        Expect.is("answers", due.length, () -> got.length);
        for (int i = 0; i < due.length; i++) {
            int at = i;
            Expect.is("answer " + i + " of the examples", due[i], () -> got[at]);
        }
        String report = printed.toString(StandardCharsets.UTF_8).replace(System.lineSeparator(), ", ");
        Expect.same("the printed report", "4 1, 10 0, 20 2, ", report);
        linesStandHere();
        everyMethodIsNamed();
        Expect.finish();
    }

    /** All answers of the examples, in their order; a boolean is 1 or 0. */
    private static int[] examples() {
        CapabilityStore store = new CapabilityStore();
        int root = store.mint(0, 7, 15);                            // subject 0 has all rights on object 7
        store.append('r' << 24 | '5' << 16 | ';' << 8 | 't');       // the text "r5;t9": read and grant, ..
        store.append('9');                                          // .. before the time 9
        int lower = store.derive(0, root);                          // token 1, held by subject 0
        int holders = store.give(0, 3, lower);                      // 2 subjects hold it now: 0 and 3
        int before = store.request(0, root, 2, 42);                 // writes 42; 0 was the content before
        int content = store.request(3, lower, 1, 0);                // reads 42
        try {
            store.request(3, lower, 2, 43);
        } catch (UnsupportedOperationException denied) {
            for (int level = 0; level < store.levels(); level++) {
                System.out.println(store.report(level, 0) + " " + store.report(level, 1));
            }
        }
        // prints 4 1, a caveat of token 1 does not hold; 10 0, its caveat 0, a set of rights; 20 2, write was asked for
        int latest = store.log(0);                                  // 3010: subject 3, token 1, denied
        int pair = store.makePair(0);
        int box = store.seal(0, pair, root);
        int boxHolders = store.giveBox(0, 4, box);                  // 17, the set of the subjects 0 and 4
        int openers = store.givePair(0, 4, pair, true);             // 17, as well
        int coming = store.coming(4);                               // 1, the set of token 0, which is in the box
        int reached = store.reached(4);                             // 128, the set of object 7
        boolean confined = store.isConfined(3, 1 << 7);             // true: subject 3 can reach no other object
        int saved = store.save();                                   // 2 tokens
        int revoked = store.revoke(0, root);                        // 2: the token and the one derived from it
        boolean nothing = store.isConfined(3, 0);                   // true: nothing is open to subject 3 any more
        int restored = store.restore();                             // 2 tokens, as they were when they were saved
        int expired = store.pass(9);                                // 1: at the time 9 token 1 expires
        return new int[] {root, lower, holders, before, content, latest, pair, box, boxHolders, openers, coming,
            reached, confined ? 1 : 0, saved, revoked, nothing ? 1 : 0, restored, expired};
    }

    /** So that an example is not changed in README.md alone. */
    private static void linesStandHere() throws Exception {
        List<String> here = new ArrayList<>();
        for (String line : Files.readAllLines(Path.of(HERE))) {
            here.add(line.strip());
        }
        int start = here.indexOf("private static int[] examples() {");
        int end = start;
        while (!here.get(end).startsWith("return")) {
            end++;
        }
        Expect.same("the examples", String.join("\n", here.subList(start + 1, end)), String.join("\n", javaLines()));
    }

    private static List<String> javaLines() throws Exception {
        List<String> lines = new ArrayList<>();
        boolean inside = false;
        for (String line : Files.readAllLines(Path.of(README))) {
            if (line.startsWith("```")) {
                inside = line.equals("```java");
            } else if (inside) {
                lines.add(line.strip());
            }
        }
        return lines;
    }

    private static void everyMethodIsNamed() throws Exception {
        String text = Files.readString(Path.of(README));
        for (Method method : CapabilityStore.class.getDeclaredMethods()) {
            if (Modifier.isPublic(method.getModifiers())) {
                Expect.is(method.getName() + " is named", true, text.contains("`" + method.getName() + "`"));
            }
        }
    }
}
