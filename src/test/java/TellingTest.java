/** Promises 9 to 12: ofKey, ofBox, wrap, count. */
final class TellingTest {
    private static final int NO_SUCH = Check.NO_SUCH, BAD_VALUE = Check.BAD_VALUE, NONE = Check.NONE;
    private static final Check check = new Check("TellingTest");

    public static void main(String[] args) {
        ofKey();
        ofBox();
        wrap();
        count();
        countOfPadAndHistory();
        check.end();
    }

    /** 0 <- 1 <- 3, 0 <- 2, 4; boxes 0 and 2 under 1, 1 under 0, 3 under 3. */
    private static Recorded house() {
        Recorded x = new Recorded();
        x.key(NONE);
        x.key(0);
        x.key(0);
        x.key(1);
        x.key(NONE);
        x.box(1);
        x.box(0);
        x.box(1);
        x.box(3);
        return x;
    }

    private static void ofKey() {
        check.part("promise 9");
        Recorded x = house();
        int[] parents = {NONE, 0, 0, 1, NONE};
        int[] wears = {3, 3, 0, 1, 0};
        int[] keySets = {Check.set(1, 2), Check.set(3), 0, 0, 0};
        int[] boxSets = {Check.set(1), Check.set(0, 2), 0, Check.set(3), 0};
        int[] aboves = {0, 1, 1, 2, 0};
        for (int k = 0; k < 5; k++) {
            check.due("ofKey(" + k + ", 0)", x.ofKey(k, 0), parents[k]);
            check.due("ofKey(" + k + ", 1)", x.ofKey(k, 1), 1);
            check.due("ofKey(" + k + ", 2)", x.ofKey(k, 2), 0);
            check.due("ofKey(" + k + ", 3)", x.ofKey(k, 3), wears[k]);
            check.due("ofKey(" + k + ", 4)", x.ofKey(k, 4), keySets[k]);
            check.due("ofKey(" + k + ", 5)", x.ofKey(k, 5), boxSets[k]);
            check.due("ofKey(" + k + ", 6)", x.ofKey(k, 6), aboves[k]);
        }
        check.due("ofKey(5, 0)", x.ofKey(5, 0), NO_SUCH);
        check.due("ofKey(-1, 0)", x.ofKey(-1, 0), NO_SUCH);
        check.due("ofKey(NONE, 0)", x.ofKey(NONE, 0), NO_SUCH);
        check.due("ofKey(5, 7): no such key first", x.ofKey(5, 7), NO_SUCH);
        check.due("ofKey(0, 7)", x.ofKey(0, 7), BAD_VALUE);
        check.due("ofKey(0, -1)", x.ofKey(0, -1), BAD_VALUE);
        check.due("ofKey(MAX, 0)", x.ofKey(Integer.MAX_VALUE, 0), NO_SUCH);
        check.due("ofKey(MIN, 0)", x.ofKey(Integer.MIN_VALUE, 0), NO_SUCH);

        x.renew(3);
        check.due("make of 3", x.ofKey(3, 2), 1);
        x.throwBox(2);
        check.due("live boxes on 1", x.ofKey(1, 5), Check.set(0));
        check.due("throwKey(1)", x.throwKey(1), 2);
        check.due("live keys on 0", x.ofKey(0, 4), Check.set(2));
        check.due("parent of 3", x.ofKey(3, 0), 1);
        check.due("live 3", x.ofKey(3, 1), 0);
        check.due("make of 3", x.ofKey(3, 2), 1);
        check.due("wear of 3", x.ofKey(3, 3), 1);
        check.due("live keys on 1", x.ofKey(1, 4), 0);
        check.due("live boxes on 3", x.ofKey(3, 5), 0);
        check.due("above 3", x.ofKey(3, 6), 2);
    }

    private static void ofBox() {
        check.part("promise 10");
        Recorded x = house();
        int[] keys = {1, 0, 1, 3};
        for (int b = 0; b < 4; b++) {
            check.due("ofBox(" + b + ", 0)", x.ofBox(b, 0), keys[b]);
            check.due("ofBox(" + b + ", 1)", x.ofBox(b, 1), 1);
            check.due("ofBox(" + b + ", 2)", x.ofBox(b, 2), 1);
            check.due("ofBox(" + b + ", 3)", x.ofBox(b, 3), 1);
        }
        check.due("ofBox(4, 0)", x.ofBox(4, 0), NO_SUCH);
        check.due("ofBox(-1, 0)", x.ofBox(-1, 0), NO_SUCH);
        check.due("ofBox(4, 4): no such box first", x.ofBox(4, 4), NO_SUCH);
        check.due("ofBox(0, 4)", x.ofBox(0, 4), BAD_VALUE);
        check.due("ofBox(0, -1)", x.ofBox(0, -1), BAD_VALUE);
        check.due("ofBox(MAX, 0)", x.ofBox(Integer.MAX_VALUE, 0), NO_SUCH);

        // Throwing a box away makes the root anew, so that no copy helps.
        Recorded y = new Recorded();
        y.key(NONE);
        y.key(0);
        y.box(1);
        y.copy(0, 1);
        y.copy(1, 2);
        check.due("box 0 from the house", y.ofBox(0, 2), 1);
        y.throwBox(0);
        check.due("live", y.ofBox(0, 1), 0);
        check.due("key", y.ofBox(0, 0), 1);
        check.due("with no places", y.ofBox(0, 2), 0);
        check.due("with all places", y.ofBox(0, 3), 0);
    }

    private static void wrap() {
        check.part("promise 11");
        Recorded x = house();
        int[][] dues = {
            {1, 0, 0, 0, 1, 0}, {2, 0, 0, 0, 1, 0}, {3, 0, 1, 0, 1, 0}, {NONE, 0, 1, 0, 1, 0},
            {NONE, 1, 0, 0, 1, 0}, {NONE, 2, 1, 0, 1, 0}, {NONE, 3, 3, 0, 1, 0}
        };
        for (int w = 0; w < dues.length; w++) {
            for (int what = 0; what < 6; what++) {
                check.due("wrap(" + w + ", " + what + ")", x.wrap(w, what), dues[w][what]);
            }
        }
        check.due("wrap(7, 0)", x.wrap(7, 0), NO_SUCH);
        check.due("wrap(-1, 0)", x.wrap(-1, 0), NO_SUCH);
        check.due("wrap(7, 6): no such wrap first", x.wrap(7, 6), NO_SUCH);
        check.due("wrap(0, 6)", x.wrap(0, 6), BAD_VALUE);
        check.due("wrap(0, -1)", x.wrap(0, -1), BAD_VALUE);
        check.due("wrap(MAX, 0)", x.wrap(Integer.MAX_VALUE, 0), NO_SUCH);
        x.copy(2, 0);
        x.copy(2, 1);
        x.copy(2, 2);
        x.renew(3);
        check.due("burnt in the house", x.wrap(2, 4), 0);
        check.due("all three places", x.wrap(2, 5), 7);
        check.due("the make held by the new one", x.wrap(7, 1), 1);
        x.renew(1);
        check.due("the make that closes the wrap of 3", x.wrap(10, 3), 1);
    }

    private static void count() {
        check.part("promise 12");
        Recorded x = house();
        check.due("keys", x.count(0), 5);
        check.due("live keys", x.count(1), 5);
        check.due("boxes", x.count(2), 4);
        check.due("live boxes", x.count(3), 4);
        check.due("wraps", x.count(4), 7);
        check.due("wraps in the house", x.count(5), 7);
        check.due("copies", x.count(6), 0);
        check.due("WEAR", x.count(7), 8);
        check.due("worn", x.count(8), 0);
        check.due("openable", x.count(9), Check.set(0, 1, 2, 3));
        check.due("count(12)", x.count(12), BAD_VALUE);
        check.due("count(-1)", x.count(-1), BAD_VALUE);
        check.due("count(MIN)", x.count(Integer.MIN_VALUE), BAD_VALUE);
        x.copy(0, 0);
        x.copy(0, 1);
        x.copy(3, 1);
        check.due("copies", x.count(6), 3);
        x.wear(3);
        check.due("worn", x.count(8), Check.set(0, 1));
        x.wear(2);
        check.due("worn, below its wear", x.count(8), Check.set(0, 1));
        x.throwKey(1);
        check.due("too much hangs from 0? keys", x.count(1), 3);
        check.due("keys", x.count(0), 5);
        check.due("boxes", x.count(2), 4);
        check.due("live boxes", x.count(3), 1);
        check.due("wraps", x.count(4), 9);
        check.due("wraps in the house", x.count(5), 2);
        check.due("copies", x.count(6), 3);
        check.due("worn", x.count(8), Check.set(0));
        check.due("openable", x.count(9), Check.set(1));
        x.throwKey(0);
        check.due("worn: only live keys", x.count(8), 0);
        check.due("openable", x.count(9), 0);
    }

    private static void countOfPadAndHistory() {
        check.part("promise 12, pad and history");
        Recorded x = new Recorded();
        x.write("k-;b0");
        check.due("pad", x.count(10), 5);
        check.due("changes", x.count(11), 0);
        x.carryOut();
        check.due("pad", x.count(10), 0);
        check.due("changes", x.count(11), 1);
        for (int i = 0; i < 8; i++) {
            x.wear(9);
        }
        check.due("changes", x.count(11), 6);
        x.undo();
        check.due("changes", x.count(11), 5);
    }
}
