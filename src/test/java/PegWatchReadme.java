import java.io.IOException;
import java.lang.reflect.Method;
import java.lang.reflect.Modifier;
import java.nio.file.Files;
import java.nio.file.Path;
import java.util.ArrayList;
import java.util.List;
import java.util.Set;
import java.util.TreeSet;
import java.util.regex.Matcher;
import java.util.regex.Pattern;

/** What README.md says of the class, held against the class. */
public final class PegWatchReadme {
    private static final Pattern EXAMPLE = Pattern.compile("board\\.(\\w+)\\(([^)]*)\\);\\s*// (-?\\d+)\\b.*");
    private static final Pattern TABLE = Pattern.compile("\\| `(\\w+)\\(([^)]*)\\)` \\|.*");
    private static int wrong = 0;

    public static void main(String[] args) throws IOException, ReflectiveOperationException {
        List<String> page = Files.readAllLines(Path.of("README.md"));
        theExampleAnswersAsThePageSays(page);
        theTableHasEveryCall(page);
        System.out.println(wrong == 0 ? "all answers are as due" : wrong + " answers are not as due");
        if (wrong != 0) {
            System.exit(1);
        }
    }

    private static void fail(String what) {
        wrong++;
        System.out.println("README.md: " + what);
    }

    private static void theExampleAnswersAsThePageSays(List<String> page) throws ReflectiveOperationException {
        int from = page.indexOf("```java");
        List<String> rest = page.subList(from + 1, page.size());
        List<String> example = rest.subList(0, Math.max(0, rest.indexOf("```")));
        if (from < 0 || example.size() < 2 || !example.get(0).equals("PegWatch board = new PegWatch();")) {
            fail("there is no example");
            return;
        }
        PegWatch board = new PegWatch();
        for (String line : example.subList(1, example.size())) {
            Matcher call = EXAMPLE.matcher(line);
            if (!call.matches()) {
                fail("no call with its answer: " + line);
                continue;
            }
            long got = answer(board, call.group(1), arguments(call.group(2)));
            if (got != Long.parseLong(call.group(3))) {
                fail(line + " answered " + got);
            }
        }
    }

    private static long answer(PegWatch board, String name, List<String> arguments)
            throws ReflectiveOperationException {
        Method method = callNamed(name);
        Class<?>[] kinds = method.getParameterTypes();
        Object[] values = new Object[kinds.length];
        for (int i = 0; i < kinds.length; i++) {
            values[i] = kinds[i] == boolean.class
                    ? (Object) Boolean.valueOf(arguments.get(i)) : Integer.valueOf(arguments.get(i));
        }
        return ((Number) method.invoke(board, values)).longValue();
    }

    private static void theTableHasEveryCall(List<String> page) {
        Set<String> told = new TreeSet<>();
        for (String line : page) {
            Matcher row = TABLE.matcher(line);
            if (row.matches() && !told.add(row.group(1) + " of " + arguments(row.group(2)).size())) {
                fail("told twice: " + line);
            }
        }
        Set<String> calls = new TreeSet<>();
        for (Method method : PegWatch.class.getDeclaredMethods()) {
            if (Modifier.isPublic(method.getModifiers())) {
                calls.add(method.getName() + " of " + method.getParameterCount());
            }
        }
        if (!told.equals(calls)) {
            fail("the table tells " + told + ", the class has " + calls);
        }
    }

    private static Method callNamed(String name) {
        for (Method method : PegWatch.class.getDeclaredMethods()) {
            if (method.getName().equals(name) && Modifier.isPublic(method.getModifiers())) {
                return method;
            }
        }
        throw new IllegalArgumentException("no call is named " + name);
    }

    private static List<String> arguments(String written) {
        List<String> all = new ArrayList<>();
        for (String argument : written.split(",")) {
            if (!argument.isBlank()) {
                all.add(argument.trim());
            }
        }
        return all;
    }
}
