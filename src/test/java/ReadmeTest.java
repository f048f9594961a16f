import java.lang.reflect.Method;
import java.lang.reflect.Modifier;
import java.nio.file.Files;
import java.nio.file.Path;
import java.util.Arrays;
import java.util.HashSet;
import java.util.Set;
import java.util.regex.Matcher;
import java.util.regex.Pattern;

// Runs the example of README.md line by line, so that what it tells a reader stays true.
public final class ReadmeTest {
    private static final Path README = Path.of("README.md");
    private static final String START = "```java\n", END = "```\n";
    private static final String NEW_OBJECT = "VotingSuite suite = new VotingSuite();";
    private static final Pattern CALL =
        Pattern.compile("suite\\.(\\w+)\\((-?\\d+(?:, -?\\d+)*)?\\); +// (-?\\w+)(?:: .+)?");

    private static final VotingSuite suite = new VotingSuite();
    private static final Set<String> shown = new HashSet<>();
    private static int wrong = 0;

    public static void main(String[] args) throws Exception {
        String text = Files.readString(README);
        int start = text.indexOf(START) + START.length();
        String[] lines = text.substring(start, text.indexOf(END, start)).split("\n");
        if (!lines[0].equals(NEW_OBJECT)) {
            report("the example starts with: " + lines[0]);
        }
        for (int k = 1; k < lines.length; k++) {
            runLine(lines[k]);
        }
        for (Method method : VotingSuite.class.getDeclaredMethods()) {
            if (Modifier.isPublic(method.getModifiers()) && !shown.contains(method.getName())) {
                report("the example does not show " + method.getName());
            }
        }
        System.out.println(lines.length - 1 + " calls of the example made, " + wrong + " faults");
        if (wrong != 0) {
            System.exit(1);
        }
    }

    private static void runLine(String line) throws Exception {
        Matcher call = CALL.matcher(line);
        if (!call.matches()) {
            report("not a call with its answer: " + line);
            return;
        }
        String[] words = call.group(2) == null ? new String[0] : call.group(2).split(", ");
        Object[] values = Arrays.stream(words).map(Integer::valueOf).toArray();
        Class<?>[] types = new Class<?>[values.length];
        Arrays.fill(types, int.class);
        Object got = VotingSuite.class.getMethod(call.group(1), types).invoke(suite, values);
        shown.add(call.group(1));
        if (!got.toString().equals(answerOf(call.group(3)))) {
            report(line + " answered " + got);
        }
    }

    private static String answerOf(String word) {
        switch (word) {
            case "BAD": return "-1000";
            case "FULL": return "-1001";
            case "NONE": return "-1002";
            default: return word;
        }
    }

    private static void report(String fault) {
        wrong++;
        System.out.println(fault);
    }
}
