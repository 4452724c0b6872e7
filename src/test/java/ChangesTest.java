/** Promises 1 to 8: a new object, wear, key, box, copy, renew, throwKey, throwBox. */
final class ChangesTest {
    private static final int NO_SUCH = Check.NO_SUCH, BAD_VALUE = Check.BAD_VALUE, TOO_MANY = Check.TOO_MANY,
            NOT_POSSIBLE = Check.NOT_POSSIBLE, NONE = Check.NONE;
    private static final Check check = new Check("ChangesTest");

    public static void main(String[] args) {
        newObject();
        wear();
        key();
        keyAtTheLimits();
        box();
        copy();
        renew();
        renewLacks();
        renewInTheMiddle();
        throwKey();
        throwKeyLacks();
        throwRoot();
        throwBox();
        throwBoxLacks();
        fullOfWraps();
        numbersStay();
        check.end();
    }

    private static void newObject() {
        check.part("promise 1");
        Recorded x = new Recorded();
        for (int what = 0; what < 12; what++) {
            check.due("count(" + what + ")", x.count(what), what == 7 ? 8 : 0);
        }
        check.due("fault()", x.fault(), 0);
        check.due("mostWorn(0)", x.mostWorn(0), NONE);
        check.due("undo()", x.undo(), NOT_POSSIBLE);
        check.due("restore(0)", x.restore(0), NOT_POSSIBLE);
        check.due("restore(1)", x.restore(1), NOT_POSSIBLE);
    }

    private static void wear() {
        check.part("promise 2");
        Recorded x = new Recorded();
        check.due("wear(1)", x.wear(1), BAD_VALUE);
        check.due("wear(31)", x.wear(31), BAD_VALUE);
        check.due("wear(0)", x.wear(0), BAD_VALUE);
        check.due("wear(MIN)", x.wear(Integer.MIN_VALUE), BAD_VALUE);
        check.due("wear(MAX)", x.wear(Integer.MAX_VALUE), BAD_VALUE);
        check.due("WEAR", x.count(7), 8);
        check.due("changes", x.count(11), 0);
        check.due("wear(2)", x.wear(2), 8);
        check.due("wear(30)", x.wear(30), 2);
        check.due("wear(30) again", x.wear(30), 30);
        check.due("WEAR", x.count(7), 30);
        check.due("changes", x.count(11), 3);
    }

    private static void key() {
        check.part("promise 3");
        Recorded x = new Recorded();
        check.due("key(0)", x.key(0), NO_SUCH);
        check.due("key(-1)", x.key(-1), NO_SUCH);
        check.due("key(-7)", x.key(-7), NO_SUCH);
        check.due("key(MIN)", x.key(Integer.MIN_VALUE), NO_SUCH);
        check.due("key(NONE)", x.key(NONE), 0);
        check.due("wraps", x.count(4), 0);
        check.due("key(0)", x.key(0), 1);
        check.due("key(1)", x.key(1), 2);
        check.due("key(3)", x.key(3), NO_SUCH);
        check.due("key(MAX)", x.key(Integer.MAX_VALUE), NO_SUCH);
        check.due("key(32)", x.key(32), NO_SUCH);
        check.wrapIs(x, 0, 1, 0, 0, 0, 1, 0);
        check.wrapIs(x, 1, 2, 0, 1, 0, 1, 0);
        check.due("wear of 0", x.ofKey(0, 3), 1);
        check.due("wear of 1", x.ofKey(1, 3), 1);
        check.due("wear of 2", x.ofKey(2, 3), 0);
        x.wear(2);
        check.due("key(0)", x.key(0), 3);
        check.due("key(0) worn", x.key(0), NOT_POSSIBLE);
        check.due("keys", x.count(0), 4);
        x.wear(8);
        x.renew(1);
        check.due("key(1): a wrap of the latest makes", x.key(1), 4);
        check.wrapIs(x, x.count(4) - 1, 4, 0, 1, 1, 1, 0);
        x.throwKey(1);
        check.due("key(1) not live", x.key(1), NO_SUCH);
        check.due("key(2) not live", x.key(2), NO_SUCH);
    }

    private static void keyAtTheLimits() {
        check.part("promise 3, limits");
        Recorded x = new Recorded();
        x.key(NONE);
        for (int i = 1; i < 9; i++) {
            check.due("key(0)", x.key(0), i);
        }
        check.due("key(0) worn", x.key(0), NOT_POSSIBLE);
        for (int i = 9; i < 20; i++) {
            check.due("key(NONE)", x.key(NONE), i);
        }
        check.due("key(NONE) too many", x.key(NONE), TOO_MANY);
        check.due("key(0) too many, and worn", x.key(0), TOO_MANY);
        check.due("key(20) no such, and too many", x.key(20), NO_SUCH);
        check.due("keys", x.count(0), 20);
        check.due("throwKey(19)", x.throwKey(19), 0);
        check.due("key(NONE): also keys thrown away count", x.key(NONE), TOO_MANY);
    }

    private static void box() {
        check.part("promise 4");
        Recorded x = new Recorded();
        check.due("box(0)", x.box(0), NO_SUCH);
        check.due("box(NONE)", x.box(NONE), NO_SUCH);
        x.key(NONE);
        check.due("box(1)", x.box(1), NO_SUCH);
        check.due("box(NONE)", x.box(NONE), NO_SUCH);
        for (int i = 0; i < 8; i++) {
            check.due("box(0)", x.box(0), i);
            check.wrapIs(x, i, NONE, i, 0, 0, 1, 0);
        }
        check.due("wear", x.ofKey(0, 3), 8);
        check.due("box(0) worn", x.box(0), NOT_POSSIBLE);
        x.wear(30);
        for (int i = 8; i < 20; i++) {
            check.due("box(0)", x.box(0), i);
        }
        check.due("box(0) too many", x.box(0), TOO_MANY);
        x.wear(2);
        check.due("box(0) too many, and worn", x.box(0), TOO_MANY);
        check.due("box(1) no such, and too many", x.box(1), NO_SUCH);
        x.throwKey(0);
        check.due("box(0) not live", x.box(0), NO_SUCH);
        x.key(NONE);
        check.due("box(1): also boxes thrown away count", x.box(1), TOO_MANY);
    }

    private static void copy() {
        check.part("promise 5");
        Recorded x = new Recorded();
        check.due("copy(0, 0)", x.copy(0, 0), NO_SUCH);
        check.due("copy(0, 9): no such wrap first", x.copy(0, 9), NO_SUCH);
        x.key(NONE);
        x.box(0);
        x.box(0);
        check.due("copy(-1, 0)", x.copy(-1, 0), NO_SUCH);
        check.due("copy(2, 0)", x.copy(2, 0), NO_SUCH);
        check.due("copy(0, -1)", x.copy(0, -1), BAD_VALUE);
        check.due("copy(0, 3)", x.copy(0, 3), BAD_VALUE);
        check.due("copy(0, MAX)", x.copy(0, Integer.MAX_VALUE), BAD_VALUE);
        check.due("copy(0, 0)", x.copy(0, 0), 1);
        check.due("copy(0, 0) again", x.copy(0, 0), NOT_POSSIBLE);
        check.due("copy(1, 0)", x.copy(1, 0), 2);
        check.due("copy(1, 2)", x.copy(1, 2), 1);
        check.due("places of 0", x.wrap(0, 5), 1);
        check.due("places of 1", x.wrap(1, 5), 5);
        check.due("copies", x.count(6), 3);
        x.renew(0);
        check.due("copy(0, 1) burnt", x.copy(0, 1), NOT_POSSIBLE);
        check.due("copy(0, 3) burnt", x.copy(0, 3), BAD_VALUE);
        check.due("copies stand", x.count(6), 3);
        check.due("copy(2, 0): of a newer wrap", x.copy(2, 0), 3);
        check.due("copy(3, 1)", x.copy(3, 1), 1);
    }

    private static void renew() {
        check.part("promise 6");
        Recorded x = new Recorded();
        check.due("renew(0)", x.renew(0), NO_SUCH);
        check.due("renew(NONE)", x.renew(NONE), NO_SUCH);
        x.key(NONE);
        check.due("renew(0), nothing hangs", x.renew(0), 0);
        check.due("make", x.ofKey(0, 2), 1);
        x.box(0);
        x.key(0);
        x.box(0);
        x.key(0);
        check.wrapIs(x, 0, NONE, 0, 0, 1, 1, 0);
        check.due("renew(0)", x.renew(0), 4);
        for (int w = 0; w < 4; w++) {
            check.due("old wrap " + w + " in the house", x.wrap(w, 4), 0);
        }
        check.wrapIs(x, 4, 1, 0, 0, 2, 1, 0);
        check.wrapIs(x, 5, 2, 0, 0, 2, 1, 0);
        check.wrapIs(x, 6, NONE, 0, 0, 2, 1, 0);
        check.wrapIs(x, 7, NONE, 1, 0, 2, 1, 0);
        check.due("wear of 0", x.ofKey(0, 3), 4);
        check.due("wear of 1", x.ofKey(1, 3), 0);
        check.due("make of 1", x.ofKey(1, 2), 0);
        check.due("renew(3)", x.renew(3), NO_SUCH);
        check.due("throwKey(1)", x.throwKey(1), 3);
        check.due("renew(1) not live", x.renew(1), NO_SUCH);
        check.due("renew(0), less hangs", x.renew(0), 3);
    }

    private static void renewLacks() {
        check.part("promise 6, what it needs");
        Recorded x = new Recorded();
        x.wear(3);
        x.key(NONE);
        x.key(0);
        x.box(1);
        x.box(1);
        x.box(1);
        check.due("renew(1)", x.renew(1), 4);
        check.due("wear of the parent", x.ofKey(0, 3), 2);
        check.due("wear(2)", x.wear(2), 3);
        check.due("renew(1): the parent is worn, and too much hangs", x.renew(1), NOT_POSSIBLE);
        check.due("wear(3)", x.wear(3), 2);
        check.due("renew(1)", x.renew(1), 4);
        check.due("renew(1): the parent is worn", x.renew(1), NOT_POSSIBLE);
        check.due("changes nothing", x.ofKey(1, 2), 2);
        check.due("renew(0)", x.renew(0), 1);
        check.due("renew(1)", x.renew(1), 4);
        x.wear(2);
        x.renew(0);
        check.due("renew(1): too much hangs", x.renew(1), NOT_POSSIBLE);
        check.due("throwBox(0)", x.throwBox(0), 3);
        check.due("renew(1): as much as WEAR hangs", x.renew(1), 3);
        check.due("renew(1): the parent is worn", x.renew(1), NOT_POSSIBLE);
        check.due("renew(0): a root needs no parent", x.renew(0), 1);
    }

    private static void renewInTheMiddle() {
        check.part("promise 6, order of the wraps");
        Recorded x = new Recorded();
        x.key(NONE);
        x.key(0);
        x.box(1);
        x.key(1);
        x.box(2);
        x.box(0);
        check.due("renew(1)", x.renew(1), 3);
        check.due("wraps", x.count(4), 8);
        check.wrapIs(x, 0, 1, 0, 0, 0, 0, 0);
        check.wrapIs(x, 1, NONE, 0, 1, 0, 0, 0);
        check.wrapIs(x, 2, 2, 0, 1, 0, 0, 0);
        check.wrapIs(x, 3, NONE, 1, 2, 0, 1, 0);
        check.wrapIs(x, 4, NONE, 2, 0, 0, 1, 0);
        check.wrapIs(x, 5, 1, 1, 0, 0, 1, 0);
        check.wrapIs(x, 6, 2, 0, 1, 1, 1, 0);
        check.wrapIs(x, 7, NONE, 0, 1, 1, 1, 0);
        check.due("wear of 0", x.ofKey(0, 3), 3);
        check.due("wear of 1", x.ofKey(1, 3), 2);
    }

    private static void throwKey() {
        check.part("promise 7");
        Recorded x = new Recorded();
        check.due("throwKey(0)", x.throwKey(0), NO_SUCH);
        x.key(NONE);
        x.key(0);
        x.key(1);
        x.key(2);
        x.box(0);
        x.box(1);
        x.box(2);
        x.box(3);
        x.key(0);
        x.key(NONE);
        x.box(5);
        check.due("throwKey(-1)", x.throwKey(-1), NO_SUCH);
        check.due("throwKey(6)", x.throwKey(6), NO_SUCH);
        x.copy(1, 1);
        check.due("throwKey(2)", x.throwKey(2), 4);
        check.due("live keys", x.count(1), 4);
        check.due("live boxes", x.count(3), 3);
        for (int k = 0; k < 6; k++) {
            check.due("live " + k, x.ofKey(k, 1), k == 2 || k == 3 ? 0 : 1);
            check.due("make of " + k, x.ofKey(k, 2), k < 2 ? 1 : 0);
        }
        check.due("wear of 0", x.ofKey(0, 3), 3);
        check.due("wear of 1", x.ofKey(1, 3), 1);
        check.due("wear of 5", x.ofKey(5, 3), 1);
        for (int w = 0; w < 9; w++) {
            check.due("wrap " + w + " in the house", x.wrap(w, 4), w == 8 ? 1 : 0);
        }
        check.wrapIs(x, 9, 1, 1, 0, 1, 1, 0);
        check.wrapIs(x, 10, 4, 0, 0, 1, 1, 0);
        check.wrapIs(x, 11, NONE, 0, 0, 1, 1, 0);
        check.wrapIs(x, 12, NONE, 1, 1, 1, 1, 0);
        check.due("the copy stands", x.wrap(1, 5), 2);
        check.due("throwKey(2) again", x.throwKey(2), NO_SUCH);
        check.due("throwKey(3) went with it", x.throwKey(3), NO_SUCH);
    }

    private static void throwKeyLacks() {
        check.part("promise 7, what it needs");
        Recorded x = new Recorded();
        x.key(NONE);
        x.key(0);
        x.key(1);
        x.box(0);
        x.box(0);
        x.box(1);
        x.box(1);
        x.wear(2);
        check.due("throwKey(2): 3 hang from 0", x.throwKey(2), NOT_POSSIBLE);
        check.due("live keys", x.count(1), 3);
        check.due("throwKey(1): 2 hang from 0", x.throwKey(1), 2);
        x.wear(8);
        x.key(0);
        x.key(3);
        x.box(3);
        x.box(3);
        x.box(3);
        x.wear(3);
        check.due("throwKey(4): 3 hang from 3, too", x.throwKey(4), 6);
        x.wear(2);
        check.due("throwKey(3): 2 hang from 0", x.throwKey(3), 2);
    }

    private static void throwRoot() {
        check.part("promise 7, a root");
        Recorded x = new Recorded();
        x.key(NONE);
        x.key(0);
        x.box(1);
        x.key(NONE);
        x.box(2);
        check.due("throwKey(0)", x.throwKey(0), 0);
        check.due("live keys", x.count(1), 1);
        check.due("live boxes", x.count(3), 1);
        check.due("wraps in the house", x.count(5), 1);
        check.due("make of 0", x.ofKey(0, 2), 0);
        check.due("canHave(0, 0, 7)", x.canHave(0, 0, 7), 0);
        check.due("canOpen(0, 7)", x.canOpen(0, 7), 0);
        check.due("canOpen(1, 0)", x.canOpen(1, 0), 1);
    }

    private static void throwBox() {
        check.part("promise 8");
        Recorded x = new Recorded();
        check.due("throwBox(0)", x.throwBox(0), NO_SUCH);
        x.key(NONE);
        x.key(0);
        x.box(1);
        x.box(1);
        x.key(1);
        x.box(0);
        check.due("throwBox(-1)", x.throwBox(-1), NO_SUCH);
        check.due("throwBox(3)", x.throwBox(3), NO_SUCH);
        check.due("throwBox(0)", x.throwBox(0), 4);
        check.due("throwBox(0) again", x.throwBox(0), NO_SUCH);
        check.due("live boxes", x.count(3), 2);
        check.due("live keys", x.count(1), 3);
        for (int w = 0; w < 5; w++) {
            check.due("wrap " + w + " in the house", x.wrap(w, 4), 0);
        }
        check.wrapIs(x, 5, 1, 1, 0, 1, 1, 0);
        check.wrapIs(x, 6, NONE, 2, 0, 1, 1, 0);
        check.wrapIs(x, 7, 2, 0, 1, 1, 1, 0);
        check.wrapIs(x, 8, NONE, 1, 1, 1, 1, 0);
        check.due("make of 2", x.ofKey(2, 2), 0);
        check.due("throwBox(2)", x.throwBox(2), 1);
        check.due("make of 0", x.ofKey(0, 2), 2);
        check.due("make of 1", x.ofKey(1, 2), 1);
        check.due("throwKey(1)", x.throwKey(1), 0);
        check.due("throwBox(1): went with the key", x.throwBox(1), NO_SUCH);
    }

    private static void throwBoxLacks() {
        check.part("promise 8, what it needs");
        Recorded x = new Recorded();
        x.key(NONE);
        x.key(0);
        x.box(1);
        x.box(0);
        x.box(0);
        x.box(0);
        x.wear(3);
        check.due("throwBox(0): 4 hang from 0", x.throwBox(0), NOT_POSSIBLE);
        check.due("throwBox(1): 3 hang from 0", x.throwBox(1), 3);
        check.due("throwBox(0): 3 hang from 0", x.throwBox(0), 3);
        check.due("wear of 1", x.ofKey(1, 3), 0);
    }

    /** A root with eight boxes, made anew until there are 120 wraps. */
    private static void fullOfWraps() {
        check.part("120 wraps");
        Recorded x = new Recorded();
        x.key(NONE);
        for (int b = 0; b < 8; b++) {
            x.box(0);
        }
        for (int i = 0; i < 13; i++) {
            check.due("renew(0)", x.renew(0), 8);
        }
        check.due("wraps", x.count(4), 112);
        x.wear(7);
        check.due("renew(0): lacks", x.renew(0), NOT_POSSIBLE);
        x.wear(8);
        check.due("renew(0): the last wraps", x.renew(0), 8);
        check.due("wraps", x.count(4), 120);
        check.due("copy(119, 0)", x.copy(119, 0), 1);
        check.due("copy(120, 0)", x.copy(120, 0), NO_SUCH);
        check.due("key(0): too many, and worn", x.key(0), TOO_MANY);
        check.due("box(0): too many, and worn", x.box(0), TOO_MANY);
        check.due("renew(0)", x.renew(0), TOO_MANY);
        check.due("throwBox(0)", x.throwBox(0), TOO_MANY);
        x.wear(2);
        check.due("renew(0): too many, and lacks", x.renew(0), TOO_MANY);
        check.due("throwBox(0): too many, and lacks", x.throwBox(0), TOO_MANY);
        check.due("key(NONE): needs no wrap", x.key(NONE), 1);
        check.due("key(1)", x.key(1), TOO_MANY);
        check.due("box(1)", x.box(1), TOO_MANY);
        check.due("renew(1): needs no wrap", x.renew(1), 0);
        check.due("throwKey(0): needs no wrap", x.throwKey(0), 0);
        check.due("undo()", x.undo() >= 0 ? 1 : 0, 1);

        x = new Recorded();
        x.wear(30);
        x.key(NONE);
        x.key(0);
        for (int b = 0; b < 18; b++) {
            x.box(0);
        }
        for (int i = 0; i < 5; i++) {
            check.due("renew(0)", x.renew(0), 19);
        }
        check.due("wraps", x.count(4), 114);
        check.due("throwKey(1): 18 more", x.throwKey(1), TOO_MANY);
        x.wear(2);
        check.due("throwKey(1): too many, and lacks", x.throwKey(1), TOO_MANY);
        check.due("renew(1)", x.renew(1), NOT_POSSIBLE);
        x.wear(30);
        for (int w = 115; w <= 120; w++) {
            check.due("renew(1)", x.renew(1), 1);
            check.due("wraps", x.count(4), w);
        }
        check.due("renew(1)", x.renew(1), TOO_MANY);
    }

    private static void numbersStay() {
        check.part("numbers stay");
        Recorded x = new Recorded();
        x.key(NONE);
        x.key(0);
        x.box(1);
        x.throwKey(1);
        check.due("key(0)", x.key(0), 2);
        check.due("box(2)", x.box(2), 1);
        check.due("parent of 1", x.ofKey(1, 0), 0);
        check.due("key of box 0", x.ofBox(0, 0), 1);
    }
}
