import java.lang.reflect.Method;
import java.lang.reflect.Modifier;
import java.nio.file.Files;
import java.nio.file.Path;
import java.util.HashMap;
import java.util.Map;
import java.util.regex.Matcher;
import java.util.regex.Pattern;

/** README.md is true: its example answers what stands behind each call, and no call is left out. */
public final class ReadmeTest {
    private static final Pattern CALL =
        Pattern.compile("(?:int (\\w+) = )?x\\.(\\w+)\\(([^)]*)\\); +// (-?\\d+): .*");
    private static final Check check = new Check("ReadmeTest");

    public static void main(String[] args) throws Exception {
        String text = Files.readString(Path.of("README.md"));
        example(text.split("```")[1]);
        namesEachCall(text);
        check.end();
    }

    private static void example(String block) throws Exception {
        PromiseWire x = new PromiseWire();
        Map<String, Integer> names = new HashMap<>();
        int calls = 0;
        for (String line : block.split("\n")) {
            Matcher call = CALL.matcher(line);
            if (call.matches()) {
                int answer = answer(x, call.group(2), call.group(3).split(", "), names);
                check.due(line, answer, Integer.parseInt(call.group(4)));
                names.put(call.group(1), answer);
                calls++;
            } else {
                check.isTrue("the line has a call and its answer: " + line, line.isEmpty()
                    || line.equals("java") || line.equals("PromiseWire x = new PromiseWire();"));
            }
        }
        check.isTrue("there is an example", calls > 0);
    }

    private static int answer(PromiseWire x, String name, String[] arguments,
        Map<String, Integer> names) throws Exception {
        Object[] values = new Object[arguments.length];
        Class<?>[] types = new Class<?>[arguments.length];
        for (int i = 0; i < arguments.length; i++) {
            Integer named = names.get(arguments[i]);
            values[i] = named == null ? Integer.valueOf(arguments[i]) : named;
            types[i] = int.class;
        }
        return (int) PromiseWire.class.getMethod(name, types).invoke(x, values);
    }

    private static void namesEachCall(String text) {
        for (Method m : PromiseWire.class.getDeclaredMethods()) {
            if (Modifier.isPublic(m.getModifiers())) {
                check.isTrue("the table has " + m.getName(),
                    Pattern.compile("\\| .*`" + m.getName() + "\\(").matcher(text).find());
            }
        }
    }
}
