import java.lang.reflect.Method;
import java.nio.file.Files;
import java.nio.file.Path;
import java.util.HashMap;
import java.util.Map;
import java.util.Set;
import java.util.TreeSet;
import java.util.regex.Matcher;
import java.util.regex.Pattern;

/** Makes the calls that README.md shows, as they stand there, and holds the answers against the numbers beside them. */
public final class ReadmeTest {
    private static final Pattern BLOCK = Pattern.compile("```java\n(.*?)```", Pattern.DOTALL);
    private static final Pattern MADE =
        Pattern.compile("BayesFactors (\\w+) = new BayesFactors\\((-?\\d+)\\); // .*");
    private static final Pattern CALL =
        Pattern.compile("(\\w+)\\.(\\w+)\\((|-?\\d+(?:, -?\\d+)*)\\); +// (-?\\d+)(?:, .*)?");

    private static final Map<String, BayesFactors> OBJECTS = new HashMap<>();
    private static final Set<String> SHOWN = new TreeSet<>();
    private static int wrong = 0;

    public static void main(String[] args) throws Exception {
        Matcher block = BLOCK.matcher(Files.readString(Path.of("README.md")));
        while (block.find()) {
            for (String line : block.group(1).split("\n")) {
                follow(line);
            }
        }
        for (Method method : BayesFactors.class.getDeclaredMethods()) {
            boolean open = (method.getModifiers() & java.lang.reflect.Modifier.PUBLIC) != 0;
            if (open && !SHOWN.contains(method.getName())) {
                report("no call of " + method.getName() + " is shown");
            }
        }
        System.out.println(wrong == 0 ? "all answers are as README.md says" : wrong + " things are not as due");
        if (wrong != 0) {
            System.exit(1);
        }
    }

    private static void report(String what) {
        wrong++;
        System.out.println("README.md: " + what);
    }

    private static void follow(String line) throws Exception {
        Matcher made = MADE.matcher(line);
        Matcher call = CALL.matcher(line);
        if (made.matches()) {
            OBJECTS.put(made.group(1), new BayesFactors(Integer.parseInt(made.group(2))));
        } else if (call.matches() && OBJECTS.containsKey(call.group(1))) {
            long want = Long.parseLong(call.group(4));
            long got = answer(OBJECTS.get(call.group(1)), call.group(2), call.group(3));
            SHOWN.add(call.group(2));
            if (got != want) {
                report(line + " : answered " + got);
            }
        } else {
            report("can't be followed: " + line);
        }
    }

    private static long answer(BayesFactors x, String name, String list) throws Exception {
        String[] words = list.isEmpty() ? new String[0] : list.split(", ");
        Class<?>[] types = new Class<?>[words.length];
        Object[] arguments = new Object[words.length];
        for (int i = 0; i < words.length; i++) {
            types[i] = int.class;
            arguments[i] = Integer.parseInt(words[i]);
        }
        return ((Number) BayesFactors.class.getMethod(name, types).invoke(x, arguments)).longValue();
    }
}
