import java.lang.reflect.Constructor;
import java.lang.reflect.Executable;
import java.lang.reflect.Field;
import java.lang.reflect.Method;
import java.lang.reflect.Modifier;
import java.nio.file.Files;
import java.nio.file.Path;
import java.util.ArrayList;
import java.util.List;
import java.util.Set;
import java.util.TreeSet;
import java.util.regex.Pattern;

/** The public face as the document writes it, and what LANGUAGE.md says of the face and can be seen at once. */
public final class FaceTest {
    private static final String[] FACE = {
        "int mint(int,int,int) IndexOutOfBoundsException IllegalArgumentException IllegalStateException",
        "int append(int) IllegalArgumentException IllegalStateException",
        "int derive(int,int) IndexOutOfBoundsException UnsupportedOperationException IllegalArgumentException"
            + " IllegalStateException",
        "int errorPosition()",
        "int give(int,int,int) IndexOutOfBoundsException UnsupportedOperationException",
        "int drop(int,int) IndexOutOfBoundsException NoSuchElementException",
        "int revoke(int,int) IndexOutOfBoundsException UnsupportedOperationException",
        "int token(int,int) IndexOutOfBoundsException IllegalArgumentException",
        "int caveat(int,int,int) IndexOutOfBoundsException IllegalArgumentException",
        "int describe(int,int) IndexOutOfBoundsException",
        "int left(int,int) IndexOutOfBoundsException IllegalArgumentException",
        "int holders(int) IndexOutOfBoundsException",
        "int held(int) IndexOutOfBoundsException",
        "int below(int) IndexOutOfBoundsException",
        "int ranked(int) NoSuchElementException",
        "int request(int,int,int,int) IndexOutOfBoundsException IllegalArgumentException"
            + " UnsupportedOperationException",
        "int object(int,int) IndexOutOfBoundsException IllegalArgumentException",
        "int pass(int) IllegalArgumentException",
        "int expired(int) NoSuchElementException",
        "int log(int) NoSuchElementException",
        "int logged(int,boolean) IndexOutOfBoundsException",
        "int levels()",
        "int report(int,int) NoSuchElementException IllegalArgumentException",
        "int makePair(int) IndexOutOfBoundsException IllegalStateException",
        "int givePair(int,int,int,boolean) IndexOutOfBoundsException UnsupportedOperationException",
        "int seal(int,int,int) IndexOutOfBoundsException UnsupportedOperationException IllegalStateException",
        "int giveBox(int,int,int) IndexOutOfBoundsException UnsupportedOperationException",
        "int unseal(int,int) IndexOutOfBoundsException UnsupportedOperationException",
        "int pairOf(int) IndexOutOfBoundsException",
        "int rights(int,int) IndexOutOfBoundsException",
        "int coming(int) IndexOutOfBoundsException",
        "int round(int,int) IndexOutOfBoundsException NoSuchElementException",
        "int reached(int) IndexOutOfBoundsException",
        "boolean isConfined(int,int) IndexOutOfBoundsException IllegalArgumentException",
        "int count(int) IllegalArgumentException",
        "int save()",
        "int restore() IllegalStateException",
    };
    private static final String SOURCE = "src/main/java/CapabilityStore.java";

    public static void main(String[] args) throws Exception {
        publicFace();
        nothingElseIsSeen();
        namesAreKeptApart();
        plainSource();
        Expect.finish();
    }

    private static void publicFace() {
        TreeSet<String> due = new TreeSet<>(List.of(FACE));
        TreeSet<String> there = new TreeSet<>();
        for (Method method : CapabilityStore.class.getDeclaredMethods()) {
            if (Modifier.isPublic(method.getModifiers())) {
                there.add(method.getReturnType().getSimpleName() + " " + method.getName() + types(method));
            }
        }
        Expect.same("the public methods", String.join("\n", due), String.join("\n", there));
        Constructor<?>[] constructors = CapabilityStore.class.getDeclaredConstructors();
        Expect.is("constructors", 1, () -> constructors.length);
        Expect.same("the constructor", "()", types(constructors[0]));
        int modifiers = CapabilityStore.class.getModifiers();
        Expect.same("the class", "public final", Modifier.toString(modifiers));
    }

    private static String types(Executable member) {
        List<String> parameters = new ArrayList<>();
        for (Class<?> type : member.getParameterTypes()) {
            parameters.add(type.getSimpleName());
        }
        StringBuilder text = new StringBuilder("(" + String.join(",", parameters) + ")");
        for (Class<?> type : member.getExceptionTypes()) {
            text.append(' ').append(type.getSimpleName());
        }
        return text.toString();
    }

    private static void nothingElseIsSeen() {
        for (Method method : CapabilityStore.class.getDeclaredMethods()) {
            int modifiers = method.getModifiers();
            Expect.is(method + " is public or private", true,
                    Modifier.isPublic(modifiers) || Modifier.isPrivate(modifiers));
        }
        for (Field field : CapabilityStore.class.getDeclaredFields()) {
            Expect.is(field + " is private", true, Modifier.isPrivate(field.getModifiers()));
        }
        for (Class<?> inside : CapabilityStore.class.getDeclaredClasses()) {
            Expect.is(inside + " is static", true, Modifier.isStatic(inside.getModifiers()));
        }
        for (Class<?> owner : classes()) {
            for (Field field : owner.getDeclaredFields()) {
                int modifiers = field.getModifiers();
                Expect.is(field + " is final if it is static", true,
                        !Modifier.isStatic(modifiers) || Modifier.isFinal(modifiers));
            }
        }
    }

    private static List<Class<?>> classes() {
        List<Class<?>> classes = new ArrayList<>(List.of(CapabilityStore.class.getDeclaredClasses()));
        classes.add(CapabilityStore.class);
        return classes;
    }

    private static void namesAreKeptApart() {
        TreeSet<String> names = new TreeSet<>();
        for (String line : FACE) {
            names.add(line.substring(line.indexOf(' ') + 1, line.indexOf('(')));
        }
        for (Class<?> owner : classes()) {
            for (Method method : owner.getDeclaredMethods()) {
                boolean hidden = Modifier.isPrivate(method.getModifiers());
                Expect.is(method + " has a name of its own", true, !hidden || !names.contains(method.getName()));
            }
        }
    }

    /** The words that rule 6 forbids, but for throw, which the document's exceptions need; and what is imported. */
    private static void plainSource() throws Exception {
        String source = withoutComments(Files.readString(Path.of(SOURCE)));
        for (String word : new String[] {"try", "catch", "finally", "synchronized", "assert", "package"}) {
            Expect.is(word + " in the source", false, Pattern.compile("\\b" + word + "\\b").matcher(source).find());
        }
        Expect.is("a lambda or a method reference", false, source.contains("->") || source.contains("::"));
        Set<String> library = Set.of("ArrayList", "Arrays", "Iterator", "List", "NoSuchElementException");
        for (String line : source.split("\n")) {
            if (line.startsWith("import ")) {
                String name = line.substring(line.lastIndexOf('.') + 1, line.indexOf(';'));
                Expect.is(line, true, line.startsWith("import java.util.") && library.contains(name));
            }
        }
    }

    private static String withoutComments(String source) {
        return source.replaceAll("(?s)/\\*.*?\\*/", "").replaceAll("//.*", "");
    }
}
