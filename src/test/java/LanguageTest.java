import java.io.IOException;
import java.lang.reflect.Constructor;
import java.lang.reflect.Field;
import java.lang.reflect.Method;
import java.lang.reflect.Modifier;
import java.nio.file.Files;
import java.nio.file.Path;
import java.util.ArrayList;
import java.util.List;
import java.util.Set;
import java.util.TreeSet;
import java.util.regex.Matcher;
import java.util.regex.Pattern;

/** The face of the document, and those rules of LANGUAGE.md that can be seen from the class and its text. */
final class LanguageTest {
    private static final String[] FACE = {
        "wear(int)", "key(int)", "box(int)", "copy(int,int)", "renew(int)", "throwKey(int)", "throwBox(int)",
        "ofKey(int,int)", "ofBox(int,int)", "wrap(int,int)", "count(int)", "canOpen(int,int)", "canHave(int,int,int)",
        "way(int,int)", "leaks(int,int,int)", "lostBy(int)", "throwingMakes(int,int)", "mostWorn(int)", "put(long)",
        "wipe()", "fault()", "carryOut()", "undo()", "save(int)", "restore(int)"
    };
    private static final String[] CONSTANTS = {"NO_SUCH", "BAD_VALUE", "BAD_TEXT", "TOO_MANY", "NOT_POSSIBLE", "NONE"};
    private static final String[] FORBIDDEN = {
        "throw", "try", "catch", "synchronized", "assert", "import", "package", "volatile", "native", "var", "->", "::",
        "static {", "@Override", "Exact", "Object", "equals", "hashCode"
    };
    private static final Set<String> LIBRARY = Set.of("Math.max", "Math.min", "Integer.bitCount", "System.arraycopy");
    private static final Check check = new Check("LanguageTest");

    public static void main(String[] args) throws IOException, ReflectiveOperationException {
        constants();
        face();
        classesInside();
        text(withoutCommentsAndTexts(Files.readString(Path.of(System.getProperty("main")))));
        room();
        check.end();
    }

    private static void constants() throws ReflectiveOperationException {
        check.part("constants");
        for (int i = 0; i < CONSTANTS.length; i++) {
            Field field = HangingKeys.class.getField(CONSTANTS[i]);
            check.due(CONSTANTS[i], field.getInt(null), -1 - i);
            check.holds(CONSTANTS[i] + " is a constant", Modifier.isStatic(field.getModifiers())
                    && Modifier.isFinal(field.getModifiers()) && field.getType() == int.class);
        }
        check.due("public fields", HangingKeys.class.getFields().length, CONSTANTS.length);
    }

    private static void face() {
        check.part("face");
        check.holds("final", Modifier.isFinal(HangingKeys.class.getModifiers()));
        Constructor<?>[] constructors = HangingKeys.class.getDeclaredConstructors();
        check.due("constructors", constructors.length, 1);
        check.due("its parameters", constructors[0].getParameterCount(), 0);
        check.holds("it is public", Modifier.isPublic(constructors[0].getModifiers()));
        Set<String> found = new TreeSet<>();
        for (Method method : HangingKeys.class.getDeclaredMethods()) {
            if (Modifier.isPublic(method.getModifiers())) {
                found.add(signature(method));
                check.holds(method + " answers an int", method.getReturnType() == int.class);
            } else {
                check.holds(method + " is private", Modifier.isPrivate(method.getModifiers()));
            }
        }
        check.holds("public methods: " + found, found.equals(Set.of(FACE)));
        for (Field field : HangingKeys.class.getDeclaredFields()) {
            check.holds(field + " is public or private",
                    Modifier.isPublic(field.getModifiers()) || Modifier.isPrivate(field.getModifiers()));
        }
    }

    private static String signature(Method method) {
        List<String> types = new ArrayList<>();
        for (Class<?> type : method.getParameterTypes()) {
            types.add(type.getName());
        }
        return method.getName() + "(" + String.join(",", types) + ")";
    }

    private static void classesInside() {
        check.part("classes inside");
        List<Class<?>> classes = new ArrayList<>(List.of(HangingKeys.class.getDeclaredClasses()));
        check.holds("at most twelve classes", classes.size() + 1 <= 12);
        Set<String> faceNames = new TreeSet<>();
        for (String signature : FACE) {
            faceNames.add(signature.substring(0, signature.indexOf('(')));
        }
        for (Class<?> inside : classes) {
            check.holds(inside + " is static", Modifier.isStatic(inside.getModifiers()));
            check.holds(inside + " is private", Modifier.isPrivate(inside.getModifiers()));
            for (Method method : inside.getDeclaredMethods()) {
                check.holds(method + " bears a name of its own", !faceNames.contains(method.getName()));
                check.holds(method + " takes at most seven", method.getParameterCount() <= 7);
            }
        }
        classes.add(HangingKeys.class);
        for (Class<?> each : classes) {
            int fields = 0;
            for (Field field : each.getDeclaredFields()) {
                boolean fixed = Modifier.isStatic(field.getModifiers());
                fields += fixed ? 0 : 1;
                check.holds(field + " is final", !fixed || Modifier.isFinal(field.getModifiers()));
            }
            check.holds(each + " has at most twenty fields", fields <= 20);
        }
    }

    private static String withoutCommentsAndTexts(String source) {
        return source.replaceAll("(?s)/\\*.*?\\*/", " ").replaceAll("//[^\n]*", " ")
                .replaceAll("\"[^\"\n]*\"", "\"\"").replaceAll("'[^'\n]*'", "' '");
    }

    private static void text(String source) {
        check.part("text");
        for (String word : FORBIDDEN) {
            boolean plainWord = word.matches("\\w+");
            Pattern pattern = Pattern.compile(plainWord ? "\\b" + word + "\\b" : Pattern.quote(word));
            check.holds("without " + word, !pattern.matcher(source).find());
        }
        check.holds("no joining of texts", !source.contains("\""));
        Matcher library = Pattern.compile("\\b(Math|Integer|Long|System|String|Arrays|List)\\.\\w+").matcher(source);
        while (library.find()) {
            check.holds(library.group() + " is in the library", LIBRARY.contains(library.group()));
        }
        check.holds("signs 1 to 127", source.chars().allMatch(sign -> sign > 0 && sign < 128));
        methodsAreShort(source);
    }

    private static void methodsAreShort(String source) {
        int start = -1;
        int methods = 0;
        String[] lines = source.split("\n");
        for (int i = 0; i < lines.length; i++) {
            if (lines[i].matches(" {4,8}(public |private )?(static )?(\\w+ )?\\w+\\(.*\\) \\{")) {
                start = i;
            } else if (start >= 0 && lines[i].matches(" {4,8}\\}")) {
                check.holds("short: " + lines[start].trim(), i - start < 60);
                methods++;
                start = -1;
            }
        }
        check.holds("the methods are found: " + methods, methods > 25);
    }

    /** What the calls make is counted in bytes: only a slot that is used for the first time makes anything. */
    private static void room() {
        check.part("room");
        var threads = (com.sun.management.ThreadMXBean) java.lang.management.ManagementFactory.getThreadMXBean();
        callAll(new HangingKeys());
        HangingKeys x = new HangingKeys();
        x.save(0);
        x.save(1);
        long before = threads.getThreadAllocatedBytes(Thread.currentThread().getId());
        int calls = callAll(x);
        long made = threads.getThreadAllocatedBytes(Thread.currentThread().getId()) - before;
        check.holds(calls + " calls make next to nothing: " + made + " bytes", made < 20000);
    }

    private static int callAll(HangingKeys x) {
        int calls = 0;
        for (int i = 0; i < 16; i++) {
            x.wear(30);
            x.key(i == 0 ? HangingKeys.NONE : i - 1);
            x.box(i);
            x.copy(i, i % 3);
            x.renew(i / 2);
            x.throwKey(i == 12 ? 8 : 99);
            x.throwBox(i == 14 ? 2 : 99);
            x.ofKey(i, i % 8);
            x.ofBox(i, i % 4);
            x.wrap(i, i % 6);
            x.count(i % 13);
            x.canOpen(i, i % 8);
            x.canHave(i, 0, i % 8);
            x.way(i, i / 2);
            x.leaks(0, 0, i % 8);
            x.lostBy(i);
            x.throwingMakes(i % 2, i);
            x.mostWorn(i % 2);
            x.put(0x6b2dL);
            x.fault();
            x.carryOut();
            x.put(0x6b2d3bL);
            x.wipe();
            x.undo();
            x.save(i % 2);
            x.restore(i % 2);
            calls += 26;
        }
        return calls;
    }
}
