import java.lang.reflect.Field;
import java.lang.reflect.Method;
import java.nio.file.Files;
import java.nio.file.Path;
import java.util.regex.Matcher;
import java.util.regex.Pattern;

/** The example in README.md answers what stands beside its calls. */
public final class ReadmeTest {
    private static final Pattern CALL = Pattern.compile("store\\.(\\w+)\\(([-\\d, ]*)\\);\\s*//(?: = (\\S+))?.*");

    public static void main(String[] args) throws Exception {
        WaitingStore store = new WaitingStore();
        boolean inside = false;
        for (String line : Files.readAllLines(Path.of("README.md"))) {
            if (line.startsWith("```")) {
                inside = line.equals("```java");
            } else if (inside && line.startsWith("store.")) {
                make(store, line);
            }
        }
        Probe.finish();
    }

    private static void make(WaitingStore store, String line) throws Exception {
        Matcher call = CALL.matcher(line);
        if (!call.matches()) {
            Probe.compare(false, "no call that this test can read: " + line);
            return;
        }
        String[] numbers = call.group(2).isEmpty() ? new String[0] : call.group(2).split(", ");
        Object[] arguments = new Object[numbers.length];
        Class<?>[] types = new Class<?>[numbers.length];
        for (int i = 0; i < numbers.length; i++) {
            arguments[i] = Integer.valueOf(numbers[i]);
            types[i] = int.class;
        }
        Method method = WaitingStore.class.getMethod(call.group(1), types);
        String got = String.valueOf(method.invoke(store, arguments));
        String want = String.valueOf(meant(call.group(3)));
        Probe.compare(got.equals(want), line + " answered " + got);
    }

    /** The number behind a constant's name; everything else, none too, means itself. */
    private static String meant(String answer) throws Exception {
        if (answer == null || !answer.matches("[A-Z]+")) {
            return answer;
        }
        Field constant = WaitingStore.class.getField(answer);
        return String.valueOf(constant.getLong(null));
    }
}
