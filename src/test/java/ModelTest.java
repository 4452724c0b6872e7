import java.lang.reflect.Method;
import java.util.ArrayDeque;
import java.util.Deque;
import java.util.Random;

/** Long runs of calls on the class and on the model, which have to answer alike. The seeds are fixed. */
final class ModelTest {
    private static final int RUNS = 2000;
    /** No object is used for more calls than the document allows. */
    private static final int CALLS = 512;
    /** The last calls of a run ask what has come of it. */
    private static final int LAST_QUESTIONS = 120;
    private static final String[] NAMES = {
        "wear", "key", "box", "copy", "renew", "throwKey", "throwBox", "ofKey", "ofBox", "wrap", "count", "canOpen",
        "canHave", "way", "leaks", "lostBy", "throwingMakes", "mostWorn", "put", "wipe", "fault", "carryOut", "undo",
        "save", "restore"
    };
    private static final Check check = new Check("ModelTest");
    private static final Method[] ofReal = new Method[NAMES.length];
    private static final Method[] ofModel = new Method[NAMES.length];
    /** The highest answer of count(what), and of carryOut as the last one. */
    private static final int[] reached = new int[13];

    private final Random random;
    private final HangingKeys real = new HangingKeys();
    private final Model model = new Model();
    /** How often each call comes, different for each run. */
    private final int[] weights = new int[NAMES.length];
    private final boolean wild;
    /** What is still to be put of a text that is written in several calls. */
    private final Deque<String> writing = new ArrayDeque<>();

    private ModelTest(int seed) {
        random = new Random(seed);
        for (int kind = 0; kind < weights.length; kind++) {
            weights[kind] = 1 + random.nextInt(8);
        }
        weights[0] = 1 + random.nextInt(3);
        weights[1] += random.nextInt(30);
        weights[2] += random.nextInt(30);
        weights[3] += random.nextInt(40);
        weights[4] += random.nextInt(20);
        weights[22] = 1 + random.nextInt(3);
        weights[24] = 1 + random.nextInt(2);
        wild = random.nextInt(4) == 0;
    }

    public static void main(String[] args) throws ReflectiveOperationException {
        findMethods();
        for (int seed = 0; seed < RUNS; seed++) {
            new ModelTest(seed).run(seed);
        }
        int[] least = {20, 20, 20, 20, 120, 30, 40, 30, 1, 1 << 19, 60, 6, 12};
        for (int what = 0; what < least.length; what++) {
            check.part("the runs reach a count(" + what + ") of " + least[what]);
            check.holds("highest: " + reached[what], reached[what] >= least[what]);
        }
        check.end();
    }

    private static void findMethods() {
        for (int kind = 0; kind < NAMES.length; kind++) {
            for (Method method : HangingKeys.class.getDeclaredMethods()) {
                ofReal[kind] = method.getName().equals(NAMES[kind]) ? method : ofReal[kind];
            }
            for (Method method : Model.class.getDeclaredMethods()) {
                boolean same = method.getName().equals(NAMES[kind])
                        && method.getParameterCount() == ofReal[kind].getParameterCount()
                        && method.getReturnType() == int.class
                        && !java.lang.reflect.Modifier.isPrivate(method.getModifiers());
                ofModel[kind] = same ? method : ofModel[kind];
            }
        }
    }

    private void run(int seed) throws ReflectiveOperationException {
        for (int call = 0; call < CALLS; call++) {
            check.part("seed " + seed + ", call " + call);
            if (call < CALLS - LAST_QUESTIONS) {
                oneCall();
            } else {
                int kind = question();
                compare(kind, arguments(kind));
            }
        }
        for (int what = 0; what < 12; what++) {
            reached[what] = Math.max(reached[what], model.count(what));
        }
    }

    private void oneCall() throws ReflectiveOperationException {
        if (!writing.isEmpty()) {
            String next = writing.removeFirst();
            if (next.isEmpty()) {
                reached[12] = Math.max(reached[12], compare(kindOf("carryOut")));
            } else {
                compare(kindOf("put"), Check.number(next));
            }
            return;
        }
        int kind = kind();
        if (random.nextInt(40) == 0) {
            write(text());
        } else if (NAMES[kind].equals("put")) {
            String text = text();
            compare(kind, Check.number(text.substring(0, Math.min(8, text.length()))));
        } else {
            compare(kind, arguments(kind));
        }
    }

    private int compare(int kind, Object... arguments) throws ReflectiveOperationException {
        int got = (Integer) ofReal[kind].invoke(real, arguments);
        int want = (Integer) ofModel[kind].invoke(model, arguments);
        check.due(NAMES[kind] + java.util.Arrays.toString(arguments), got, want);
        return got;
    }

    private static int kindOf(String name) {
        return java.util.Arrays.asList(NAMES).indexOf(name);
    }

    private int kind() {
        int at = random.nextInt(java.util.Arrays.stream(weights).sum());
        int kind = 0;
        while (at >= weights[kind]) {
            at -= weights[kind];
            kind++;
        }
        return kind;
    }

    private int question() {
        int kind = kindOf("ofKey") + random.nextInt(12);
        return kind <= kindOf("mostWorn") ? kind : kindOf("fault");
    }

    private Object[] arguments(int kind) {
        Object[] arguments = new Object[ofReal[kind].getParameterCount()];
        for (int i = 0; i < arguments.length; i++) {
            arguments[i] = random.nextInt(wild ? 8 : 40) == 0 ? odd() : usual(NAMES[kind], i);
        }
        return arguments;
    }

    private int odd() {
        int[] odd = {Integer.MIN_VALUE, Integer.MAX_VALUE, -1, -2, -6, -7, 7, 8, 12, 19, 20, 31, 32, 33, 64, 119, 120};
        return odd[random.nextInt(odd.length)];
    }

    private int usual(String name, int index) {
        switch (name + index) {
            case "wear0": return random.nextInt(3) == 0 ? 2 + random.nextInt(4) : 6 + random.nextInt(26);
            case "key0": return random.nextInt(8) == 0 ? Check.NONE : number(0);
            case "renew0": case "throwKey0": case "ofKey0": case "canHave0": case "lostBy0": return number(0);
            case "box0": return number(0);
            case "throwBox0": case "ofBox0": case "canOpen0": case "way0": case "throwingMakes1": return number(2);
            case "leaks0": return random.nextInt(2) == 0 ? 0 : number(0);
            case "copy0": return random.nextInt(4) == 0 ? number(4) : Math.max(0, model.count(4) - random.nextInt(20));
            case "wrap0": return number(4);
            case "copy1": return random.nextInt(3);
            case "canHave1": case "leaks1": return random.nextInt(1 + random.nextInt(6));
            case "count0": return random.nextInt(12);
            case "throwingMakes0": case "mostWorn0": case "save0": case "restore0": return random.nextInt(2);
            default: return random.nextInt(8);
        }
    }

    /** A number below count(what), or a little above. */
    private int number(int what) {
        return random.nextInt(model.count(what) + 1 + random.nextInt(2));
    }

    private void write(String text) {
        for (int from = 0; from < text.length(); from += 8) {
            writing.add(text.substring(from, Math.min(from + 8, text.length())));
        }
        writing.add("");
    }

    private String text() {
        StringBuilder text = new StringBuilder(random.nextInt(10) == 0 ? ";" : order());
        while (random.nextInt(10) > 0) {
            text.append(random.nextInt(40) == 0 ? "" : ";").append(order());
        }
        if (random.nextInt(6) == 0) {
            text.setCharAt(random.nextInt(text.length()), (char) random.nextInt(random.nextInt(4) == 0 ? 256 : 127));
        }
        return text.toString();
    }

    private String order() {
        switch (random.nextInt(7)) {
            case 0: return "k-";
            case 1: return "k" + number(0);
            case 2: return "b" + number(0);
            case 3: return "r" + number(0);
            case 4: return "c" + number(4) + "@" + random.nextInt(3);
            case 5: return (random.nextBoolean() ? "x" : "y") + number(random.nextBoolean() ? 0 : 2);
            default: return "krbxyc".charAt(random.nextInt(6)) + "" + random.nextInt(130);
        }
    }
}
