import java.io.IOException;
import java.lang.reflect.Method;
import java.nio.file.Files;
import java.util.regex.Matcher;
import java.util.regex.Pattern;

/** The three examples of the document, word by word. */
public final class ExampleTest {
    private static final String[] EXAMPLES = {
        "write(68) = 1; write(50) = 2; write(108) = 3; write(48) = 4; write(49) = 5; write(51) = 6; write(99) = 7; "
            + "write(48) = 8; write(49) = 9; write(101) = 10; write(49) = 11; write(49) = 12; write(49) = 13; "
            + "write(49) = 14; domain() = 3; step(1) = 1.",
        "write(68) = 1; write(51) = 2; write(112) = 3; write(48) = 4; write(49) = 5; write(101) = 6; write(48) = 7; "
            + "write(48) = 8; write(50) = 9; write(48) = 10; domain() = 2; round() = 1; round() = 0; run(1, 3) = 99; "
            + "tells(0, 1) = 1; choice(0, 0, 0) = 0.",
        "write(68) = 1; write(49) = 2; write(108) = 3; fault() = 2; domain() = -3; wipe() = 3; setLink(0, 0, 3) = -2; "
            + "setMode(1) = 0; add(0) = 1; run(0, 0) = 0; run(0, 2) = 0; orders(0) = 1; healed(1) = 0; "
            + "judge(1, 5009L) = -9; undo() = 1; lost(3, true) = 1."};
    private static final Pattern CALL = Pattern.compile("(\\w+)\\(([^)]*)\\) = (-?\\d+)");

    public static void main(String[] args) throws IOException, ReflectiveOperationException {
        String document = Sentences.plain(Files.readString(Sentences.DOCUMENT));
        int calls = 0;
        for (String example : EXAMPLES) {
            Check.due(0, "the document has '" + example + "'", document.contains(example) ? 1 : 0, 1);
            HiddenExits x = new HiddenExits();
            Matcher call = CALL.matcher(example);
            while (call.find()) {
                long got = answer(x, call.group(1), call.group(2));
                Check.due(0, "example, " + call.group(), got, Long.parseLong(call.group(3)));
                calls++;
            }
        }
        Check.due(0, "calls of the examples", calls, 48);
        Check.finish();
    }

    private static long answer(HiddenExits x, String name, String list) throws ReflectiveOperationException {
        for (Method method : HiddenExits.class.getDeclaredMethods()) {
            if (method.getName().equals(name)) {
                String[] words = list.isEmpty() ? new String[0] : list.split(", ");
                Object[] arguments = new Object[words.length];
                for (int k = 0; k < words.length; k++) {
                    arguments[k] = argument(method.getParameterTypes()[k], words[k]);
                }
                return ((Number) method.invoke(x, arguments)).longValue();
            }
        }
        throw new NoSuchMethodException(name);
    }

    private static Object argument(Class<?> type, String word) {
        if (type == boolean.class) {
            return Boolean.valueOf(word);
        }
        if (type == long.class) {
            return Long.valueOf(word.replace("L", ""));
        }
        return Integer.valueOf(word);
    }
}
