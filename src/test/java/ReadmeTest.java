import java.io.File;
import java.io.IOException;
import java.lang.reflect.Field;
import java.lang.reflect.Method;
import java.lang.reflect.Modifier;
import java.nio.file.Files;
import java.nio.file.Path;
import java.util.HashMap;
import java.util.Map;
import java.util.Set;
import java.util.TreeSet;
import java.util.regex.Matcher;
import java.util.regex.Pattern;

/** What README.md says is so: the answers in its examples, the names of calls, codes, classes and tests. */
final class ReadmeTest {
    private static final Pattern EXAMPLE = Pattern.compile("(?s)```java\n(.*?)```");
    private static final Pattern NEW_HOUSE = Pattern.compile("HangingKeys house = new HangingKeys\\(\\);");
    private static final Pattern CALL =
            Pattern.compile("(?:int (\\w+) = )?house\\.(\\w+)\\(([^)]*)\\);\\s+// (-?\\d+)\\b.*");
    private static final Pattern CODE = Pattern.compile("`(\\w+)` \\((-\\d+)\\)");
    private static final Pattern TEST = Pattern.compile("`(\\w+Test)`");
    private static final Check check = new Check("ReadmeTest");

    public static void main(String[] args) throws IOException, ReflectiveOperationException {
        String readme = Files.readString(Path.of("README.md"));
        examples(readme);
        calls(readme);
        codes(readme);
        classes(readme);
        tests(readme);
        check.end();
    }

    private static void examples(String readme) throws ReflectiveOperationException {
        Matcher example = EXAMPLE.matcher(readme);
        int examples = 0;
        while (example.find()) {
            examples++;
            check.part("example " + examples);
            run(example.group(1).split("\n"));
        }
        check.part("examples");
        check.due("how many", examples, 2);
    }

    private static void run(String[] lines) throws ReflectiveOperationException {
        check.holds("a new house: " + lines[0], NEW_HOUSE.matcher(lines[0]).matches());
        HangingKeys house = new HangingKeys();
        Map<String, Integer> named = new HashMap<>();
        for (int i = 1; i < lines.length; i++) {
            Matcher call = CALL.matcher(lines[i]);
            check.holds("a call with its answer: " + lines[i], call.matches());
            if (call.matches()) {
                int got = answer(house, call.group(2), call.group(3), named);
                check.due(lines[i], got, Integer.parseInt(call.group(4)));
                named.put(String.valueOf(call.group(1)), got);
            }
        }
    }

    private static int answer(HangingKeys house, String name, String list, Map<String, Integer> named)
            throws ReflectiveOperationException {
        String[] words = list.isEmpty() ? new String[0] : list.split(", ");
        Method method = methodOf(name);
        Object[] arguments = new Object[words.length];
        for (int i = 0; i < words.length; i++) {
            arguments[i] = argument(words[i], named, method.getParameterTypes()[i] == long.class);
        }
        return (Integer) method.invoke(house, arguments);
    }

    private static Method methodOf(String name) throws NoSuchMethodException {
        for (Method method : HangingKeys.class.getMethods()) {
            if (method.getName().equals(name) && method.getDeclaringClass() == HangingKeys.class) {
                return method;
            }
        }
        throw new NoSuchMethodException(name);
    }

    private static Object argument(String word, Map<String, Integer> named, boolean isLong) {
        if (isLong) {
            return Long.decode(word.replace("L", ""));
        }
        if (word.equals("HangingKeys.NONE")) {
            return HangingKeys.NONE;
        }
        return named.containsKey(word) ? named.get(word) : Integer.decode(word);
    }

    private static void calls(String readme) {
        check.part("calls");
        for (Method method : HangingKeys.class.getDeclaredMethods()) {
            if (Modifier.isPublic(method.getModifiers())) {
                check.holds(method.getName() + " is named", readme.contains("`" + method.getName() + "`"));
            }
        }
    }

    private static void codes(String readme) throws ReflectiveOperationException {
        check.part("codes");
        Map<String, Integer> told = new HashMap<>();
        Matcher code = CODE.matcher(readme);
        while (code.find()) {
            told.put(code.group(1), Integer.valueOf(code.group(2)));
        }
        for (Field field : HangingKeys.class.getFields()) {
            check.due(field.getName(), told.getOrDefault(field.getName(), 0), field.getInt(null));
        }
    }

    private static void classes(String readme) {
        check.part("classes");
        for (Class<?> inside : HangingKeys.class.getDeclaredClasses()) {
            check.holds(inside.getSimpleName() + " is named", readme.contains("- `" + inside.getSimpleName() + "`: "));
        }
    }

    private static void tests(String readme) {
        check.part("tests");
        Set<String> named = new TreeSet<>();
        Matcher test = TEST.matcher(readme);
        while (test.find()) {
            named.add(test.group(1));
        }
        Set<String> there = new TreeSet<>();
        for (String file : new File("src/test/java").list()) {
            if (file.endsWith("Test.java")) {
                there.add(file.substring(0, file.length() - ".java".length()));
            }
        }
        check.holds("named are " + named + ", there are " + there, named.equals(there));
        check.holds(".ci/run is named", readme.contains("\n.ci/run\n"));
        check.holds(".ci/run can be run", new File(".ci/run").canExecute());
    }
}
