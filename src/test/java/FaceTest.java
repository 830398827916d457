import java.lang.reflect.Constructor;
import java.lang.reflect.Field;
import java.lang.reflect.Method;
import java.lang.reflect.Modifier;
import java.nio.file.Files;
import java.nio.file.Path;
import java.util.Set;
import java.util.StringJoiner;
import java.util.TreeSet;
import java.util.regex.Matcher;
import java.util.regex.Pattern;

/** The public face of the document, and the rules of LANGUAGE.md that a text or a class tells. */
public final class FaceTest {
    private static final Check check = new Check("FaceTest");
    private static final Set<String> METHODS = Set.of("int thing(int,int,int)",
        "int guard(int,int,int,boolean)", "int shut(int,boolean)", "int back(int)",
        "int wake(int,int)", "int about(int,int)", "int ask(int,int,int,int,int,int)",
        "int when(int,int,int)", "int state(int,int,int)", "int promise(int,int)",
        "int deliver(int,int)", "int flow(int)", "int cut(int,int)", "int again(int,int)",
        "int wire(int,int)", "int letter(int,int,int,int)", "long purses()", "int count(int)",
        "long trace()");
    private static final Set<String> CONSTANTS = Set.of("BAD", "STATE", "FULL", "NONE", "OPEN",
        "NUMBER", "THING", "BROKEN");

    public static void main(String[] args) throws Exception {
        constants();
        methods();
        members();
        text();
        check.end();
    }

    private static void constants() {
        int[] got = {PromiseWire.BAD, PromiseWire.STATE, PromiseWire.FULL, PromiseWire.NONE,
            PromiseWire.OPEN, PromiseWire.NUMBER, PromiseWire.THING, PromiseWire.BROKEN};
        int[] want = {-1, -2, -3, -9, 0, 1, 2, 3};
        for (int i = 0; i < got.length; i++) {
            check.due("constant " + i, got[i], want[i]);
        }
    }

    private static void methods() {
        Set<String> seen = new TreeSet<>();
        Set<String> publicNames = new TreeSet<>();
        Set<String> privateNames = new TreeSet<>();
        for (Method m : PromiseWire.class.getDeclaredMethods()) {
            if (Modifier.isPrivate(m.getModifiers())) {
                privateNames.add(m.getName());
            } else {
                check.isTrue(m + " is public", Modifier.isPublic(m.getModifiers()));
                check.isTrue(m + " is of an object", !Modifier.isStatic(m.getModifiers()));
                seen.add(signature(m));
                publicNames.add(m.getName());
            }
            check.isTrue(m + " takes seven at most", m.getParameterCount() <= 7);
        }
        check.isTrue("the public methods are the face: " + seen,
            seen.equals(new TreeSet<>(METHODS)));
        privateNames.retainAll(publicNames);
        check.isTrue("no private method has a public one's name: " + privateNames,
            privateNames.isEmpty());
    }

    private static String signature(Method m) {
        StringJoiner parameters = new StringJoiner(",", "(", ")");
        for (Class<?> type : m.getParameterTypes()) {
            parameters.add(type.getName());
        }
        return m.getReturnType().getName() + " " + m.getName() + parameters;
    }

    private static void members() {
        check.isTrue("it is final", Modifier.isFinal(PromiseWire.class.getModifiers()));
        Constructor<?>[] constructors = PromiseWire.class.getDeclaredConstructors();
        check.due("constructors", constructors.length, 1);
        check.isTrue("it is public", Modifier.isPublic(constructors[0].getModifiers()));
        check.due("what it takes", constructors[0].getParameterCount(), 0);
        Set<String> seen = new TreeSet<>();
        for (Field f : PromiseWire.class.getDeclaredFields()) {
            if (!Modifier.isPrivate(f.getModifiers())) {
                seen.add(f.getName());
            }
            check.isTrue(f + " is no static state",
                !Modifier.isStatic(f.getModifiers()) || Modifier.isFinal(f.getModifiers()));
        }
        check.isTrue("the constants are the face", seen.equals(new TreeSet<>(CONSTANTS)));
        Class<?>[] inside = PromiseWire.class.getDeclaredClasses();
        check.isTrue("twelve classes at most", inside.length < 12);
        for (Class<?> c : inside) {
            check.isTrue(c + " is static", Modifier.isStatic(c.getModifiers()));
        }
    }

    private static void text() throws Exception {
        String text = Files.readString(Path.of("src/main/java/PromiseWire.java"));
        String code = text.replaceAll("(?s)/\\*.*?\\*/", "").replaceAll("//[^\n]*", "");
        Matcher banned = Pattern.compile(
            "\\b(throw|throws|try|catch|synchronized|assert|import|package|hashCode|toString)\\b"
            + "|->|::|Exact\\b").matcher(code);
        while (banned.find()) {
            check.isTrue("the program is without " + banned.group(), false);
        }
    }
}
