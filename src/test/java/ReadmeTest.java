import java.lang.reflect.Method;
import java.nio.file.Files;
import java.nio.file.Path;
import java.util.regex.Matcher;
import java.util.regex.Pattern;

/** The calls that README.md shows answer what it says. */
final class ReadmeTest {
    private static final Pattern CALL = Pattern.compile("^x\\.(\\w+)\\((.*)\\); *// (-?\\w+)", Pattern.MULTILINE);

    private ReadmeTest() {
    }

    public static void main(String[] args) throws Exception {
        String text = Files.readString(Path.of("README.md"));
        Matcher shown = CALL.matcher(text);
        RopeDancers x = new RopeDancers();
        int calls = 0;
        while (shown.find()) {
            calls++;
            Due.due(shown.group() + " isn't so", answer(x, shown.group(1), shown.group(2)).equals(shown.group(3)), true);
        }
        Due.due("no call without an answer", calls, text.split("\nx\\.").length - 1);
        Due.due("calls are shown", calls > 0, true);
        Due.due("README says how the tests run", text.contains(".ci/run"), true);
        Due.end("ReadmeTest");
    }

    private static String answer(RopeDancers x, String name, String list) throws ReflectiveOperationException {
        String[] words = list.isEmpty() ? new String[0] : list.split(", ");
        for (Method method : RopeDancers.class.getMethods()) {
            if (method.getName().equals(name) && method.getParameterCount() == words.length) {
                Object[] args = new Object[words.length];
                for (int i = 0; i < args.length; i++) {
                    args[i] = method.getParameterTypes()[i] == boolean.class
                        ? (Object) Boolean.valueOf(words[i]) : (Object) Integer.valueOf(words[i]);
                }
                return String.valueOf(method.invoke(x, args));
            }
        }
        return "no such call";
    }
}
