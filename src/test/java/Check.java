/** Counts the answers that are as due and prints those that are not. */
final class Check {
    static final int NO_SUCH = -1, BAD_VALUE = -2, BAD_TEXT = -3, TOO_MANY = -4, NOT_POSSIBLE = -5, NONE = -6;

    private final String test;
    private String part = "";
    private int right = 0;
    private int wrong = 0;

    Check(String test) {
        this.test = test;
    }

    void part(String name) {
        part = name;
    }

    void due(String call, long got, long want) {
        if (got == want) {
            right++;
            return;
        }
        wrong++;
        System.out.println(test + ", " + part + ": " + call + " answered " + got + ", due is " + want);
    }

    void holds(String what, boolean got) {
        due(what, got ? 1 : 0, 1);
    }

    void wrapIs(Recorded x, int wrap, int... dues) {
        for (int what = 0; what < dues.length; what++) {
            due("wrap(" + wrap + ", " + what + ")", x.wrap(wrap, what), dues[what]);
        }
    }

    void end() {
        System.out.println(test + ": " + right + " right, " + wrong + " wrong");
        if (wrong != 0 || right == 0) {
            System.exit(1);
        }
    }

    /** The number that put takes for one to eight characters. */
    static long number(String characters) {
        long number = 0;
        for (char sign : characters.toCharArray()) {
            number = number << 8 | sign;
        }
        return number;
    }

    static int set(int... members) {
        int set = 0;
        for (int member : members) {
            set |= 1 << member;
        }
        return set;
    }

    static int faultOf(String text) {
        Recorded x = new Recorded();
        x.write(text);
        return x.fault();
    }
}
