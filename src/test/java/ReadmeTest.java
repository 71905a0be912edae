import java.lang.reflect.Method;
import java.nio.file.Files;
import java.nio.file.Path;
import java.util.ArrayList;
import java.util.Arrays;
import java.util.List;
import java.util.Set;
import java.util.TreeSet;
import java.util.regex.Matcher;
import java.util.regex.Pattern;

/** Makes the calls of README.md's example, so that what a user reads there stays true. */
public class ReadmeTest {
    private static final Pattern CALL = Pattern.compile("x\\.(\\w+)\\(([^)]*)\\);\\s*// (-?\\d+)(:.*)?");

    private static int wrong = 0;

    public static void main(String[] args) throws Exception {
        WordCodes x = new WordCodes();
        Set<String> called = new TreeSet<>();
        for (String line : Files.readAllLines(Path.of("README.md"))) {
            if (line.startsWith("x.")) {
                called.add(checkCall(x, line));
            }
        }
        checkAllCalled(called);
        System.out.println(wrong == 0 ? "the example of README.md is true" : wrong + " wrong");
        if (wrong > 0) {
            System.exit(1);
        }
    }

    private static String checkCall(WordCodes x, String line) throws Exception {
        Matcher call = CALL.matcher(line);
        if (!call.matches()) {
            say("no call with its answer: " + line);
            return "";
        }
        List<Object> values = new ArrayList<>();
        for (String value : call.group(2).split(",")) {
            if (!value.isBlank()) {
                values.add(Integer.valueOf(value.trim()));
            }
        }
        Class<?>[] types = new Class<?>[values.size()];
        Arrays.fill(types, int.class);
        Method method = WordCodes.class.getMethod(call.group(1), types);
        Object answer = method.invoke(x, values.toArray());
        if (!answer.equals(Integer.valueOf(call.group(3)))) {
            say("answered " + answer + ": " + line);
        }
        return call.group(1);
    }

    private static void checkAllCalled(Set<String> called) {
        for (Method method : WordCodes.class.getMethods()) {
            boolean own = method.getDeclaringClass() == WordCodes.class;
            if (own && !called.contains(method.getName())) {
                say("the example does not show " + method.getName());
            }
        }
    }

    private static void say(String text) {
        System.out.println(text);
        wrong++;
    }
}
