/** The boundary cases of promises 1 to 5, each with a test of its own. */
final class ChangesEdgesTest {
    private static final int NO_SUCH = Check.NO_SUCH, BAD_VALUE = Check.BAD_VALUE, TOO_MANY = Check.TOO_MANY,
            NOT_POSSIBLE = Check.NOT_POSSIBLE, NONE = Check.NONE, BAD_TEXT = Check.BAD_TEXT;
    private static final int LEAST = Integer.MIN_VALUE, MOST = Integer.MAX_VALUE;
    private static final Check check = new Check("ChangesEdgesTest");

    public static void main(String[] args) {
        emptyHouseTells();
        emptyHouseRefuses();

        wearOf2();
        wearOf30();
        wearBelow2();
        wearAbove30();
        wearAtFirstIs8();
        wearThatIsTheSame();

        keyUnderNoSuchKey();
        keyUnderAKeyThatIsNotLive();
        keyIsRoot();
        twentyKeys();
        twentyKeysThatAreNotLive();
        keyWithTheLastWrap();
        rootWith120Wraps();
        keyUnderAWornKey();

        boxUnderNoSuchKey();
        boxUnderNone();
        boxUnderAKeyThatIsNotLive();
        twentyBoxes();
        twentyBoxesThatAreNotLive();
        boxWithTheLastWrap();
        boxUnderAWornKey();

        copyOfNoSuchWrap();
        copyOfTheLastWrap();
        copyToNoPlace();
        copyOfABurntWrap();
        copyThatIsThere();
        copyAfterBurning();
        copiesInThisPlace();
        check.end();
    }

    private static final int[] ODD_NUMBERS = {-1, -2, -5, -7, LEAST, MOST, LEAST + 1, 31, 32, 33, 64, 256, 1 << 16};

    // ---- promise 1

    private static void emptyHouseTells() {
        check.part("Promise 1, a house without keys: what it tells");
        Recorded x = new Recorded();
        for (int what = 0; what < 12; what++) {
            check.due("count(" + what + ")", x.count(what), what == 7 ? 8 : 0);
        }
        check.due("mostWorn(0)", x.mostWorn(0), NONE);
        check.due("mostWorn(1)", x.mostWorn(1), NONE);
        check.due("wipe()", x.wipe(), 0);
        check.due("fault()", x.fault(), 0);
        check.due("save(0)", x.save(0), 0);
        check.due("save(1)", x.save(1), 0);
    }

    private static void emptyHouseRefuses() {
        check.part("Promise 1, a house without keys: what it refuses");
        Recorded x = new Recorded();
        check.due("key(0)", x.key(0), NO_SUCH);
        check.due("box(0)", x.box(0), NO_SUCH);
        check.due("copy(0, 0)", x.copy(0, 0), NO_SUCH);
        check.due("renew(0)", x.renew(0), NO_SUCH);
        check.due("throwKey(0)", x.throwKey(0), NO_SUCH);
        check.due("throwBox(0)", x.throwBox(0), NO_SUCH);
        check.due("ofKey(0, 0)", x.ofKey(0, 0), NO_SUCH);
        check.due("ofBox(0, 0)", x.ofBox(0, 0), NO_SUCH);
        check.due("wrap(0, 0)", x.wrap(0, 0), NO_SUCH);
        check.due("canOpen(0, 0)", x.canOpen(0, 0), NO_SUCH);
        check.due("canHave(0, 0, 0)", x.canHave(0, 0, 0), NO_SUCH);
        check.due("way(0, 0)", x.way(0, 0), NO_SUCH);
        check.due("leaks(0, 0, 0)", x.leaks(0, 0, 0), NO_SUCH);
        check.due("lostBy(0)", x.lostBy(0), NO_SUCH);
        check.due("throwingMakes(0, 0)", x.throwingMakes(0, 0), NO_SUCH);
        check.due("throwingMakes(1, 0)", x.throwingMakes(1, 0), NO_SUCH);
        check.due("carryOut()", x.carryOut(), BAD_TEXT);
        check.due("undo()", x.undo(), NOT_POSSIBLE);
        check.due("restore(0)", x.restore(0), NOT_POSSIBLE);
        check.due("restore(1)", x.restore(1), NOT_POSSIBLE);
    }

    // ---- promise 2

    private static void wearOf2() {
        check.part("Promise 2, wear: 2 is taken");
        Recorded x = new Recorded();
        check.due("wear(2)", x.wear(2), 8);
        check.due("WEAR", x.count(7), 2);
        check.due("changes", x.count(11), 1);
    }

    private static void wearOf30() {
        check.part("Promise 2, wear: 30 is taken");
        Recorded x = new Recorded();
        check.due("wear(30)", x.wear(30), 8);
        check.due("WEAR", x.count(7), 30);
        check.due("changes", x.count(11), 1);
    }

    private static void wearBelow2() {
        check.part("Promise 2, wear: BAD_VALUE below 2");
        Recorded x = new Recorded();
        for (int wear : new int[] {1, 0, -1, NONE, -30, LEAST}) {
            check.due("wear(" + wear + ")", x.wear(wear), BAD_VALUE);
            check.due("WEAR", x.count(7), 8);
        }
    }

    private static void wearAbove30() {
        check.part("Promise 2, wear: BAD_VALUE above 30");
        Recorded x = new Recorded();
        for (int wear : new int[] {31, 32, 33, 258, MOST}) {
            check.due("wear(" + wear + ")", x.wear(wear), BAD_VALUE);
            check.due("WEAR", x.count(7), 8);
        }
    }

    private static void wearAtFirstIs8() {
        check.part("Promise 2, wear: the previous value, 8 at first");
        Recorded x = new Recorded();
        check.due("wear(30)", x.wear(30), 8);
        check.due("wear(31)", x.wear(31), BAD_VALUE);
        check.due("wear(2)", x.wear(2), 30);
        check.due("wear(3)", x.wear(3), 2);
    }

    private static void wearThatIsTheSame() {
        check.part("Promise 2, wear: the value that it has is a change, too");
        Recorded x = new Recorded();
        check.due("wear(8)", x.wear(8), 8);
        check.due("changes", x.count(11), 1);
        check.due("undo()", x.undo(), 0);
    }

    // ---- promise 3

    private static void keyUnderNoSuchKey() {
        check.part("Promise 3, key: NO_SUCH if there is no such live key: one that was never made");
        Recorded x = Houses.chain(3);
        check.due("key(3)", x.key(3), NO_SUCH);
        for (int parent : ODD_NUMBERS) {
            check.due("key(" + parent + ")", x.key(parent), NO_SUCH);
        }
        check.due("key(2), the last one", x.key(2), 3);
    }

    private static void keyUnderAKeyThatIsNotLive() {
        check.part("Promise 3, key: NO_SUCH if there is no such live key: one that was thrown away");
        Recorded x = Houses.tree();
        x.throwKey(2);
        check.due("key(2)", x.key(2), NO_SUCH);
        x.throwKey(1);
        check.due("key(1)", x.key(1), NO_SUCH);
        check.due("key(3): went with key 1", x.key(3), NO_SUCH);
        check.due("key(0)", x.key(0), 4);
    }

    private static void keyIsRoot() {
        check.part("Promise 3, key: a live key, or NONE: it is a root, without a wrap");
        Recorded x = new Recorded();
        check.due("key(NONE)", x.key(NONE), 0);
        check.due("parent", x.ofKey(0, 0), NONE);
        check.due("wraps", x.count(4), 0);
        check.due("key(0)", x.key(0), 1);
        check.due("parent", x.ofKey(1, 0), 0);
        check.due("wraps", x.count(4), 1);
        check.due("key(NONE)", x.key(NONE), 2);
        check.due("parent", x.ofKey(2, 0), NONE);
        check.due("wraps", x.count(4), 1);
    }

    private static void twentyKeys() {
        check.part("Promise 3, key: TOO_MANY if there are 20 keys");
        Recorded x = Houses.chain(19);
        check.due("key(NONE), the last one", x.key(NONE), 19);
        check.due("key(NONE)", x.key(NONE), TOO_MANY);
        check.due("key(0)", x.key(0), TOO_MANY);
        check.due("key(19)", x.key(19), TOO_MANY);
        check.due("keys", x.count(0), 20);
        check.due("wraps", x.count(4), 18);
    }

    private static void twentyKeysThatAreNotLive() {
        check.part("Promise 3, key: TOO_MANY if there are 20 keys, live or not");
        Recorded x = Houses.chain(20);
        x.throwKey(0);
        check.due("live keys", x.count(1), 0);
        check.due("key(NONE)", x.key(NONE), TOO_MANY);
    }

    private static void keyWithTheLastWrap() {
        check.part("Promise 3, key: TOO_MANY if there would be more than 120 wraps");
        Recorded x = Houses.withWraps(119);
        check.due("key(1)", x.key(1), 2);
        check.due("wraps", x.count(4), 120);
        check.due("key(1)", x.key(1), TOO_MANY);
        check.due("key(2)", x.key(2), TOO_MANY);
        check.due("keys", x.count(0), 3);
    }

    private static void rootWith120Wraps() {
        check.part("Promise 3, key: a wrap of it, if it is no root: a root needs none, also with 120 wraps");
        Recorded x = Houses.withWraps(120);
        check.due("key(0)", x.key(0), TOO_MANY);
        check.due("key(NONE)", x.key(NONE), 2);
        check.due("wraps", x.count(4), 120);
    }

    private static void keyUnderAWornKey() {
        check.part("Promise 3, key: NOT_POSSIBLE if the parent cannot close one more wrap");
        Recorded x = new Recorded();
        x.wear(2);
        x.key(NONE);
        check.due("key(0)", x.key(0), 1);
        check.due("key(0)", x.key(0), 2);
        check.due("key(0)", x.key(0), NOT_POSSIBLE);
        check.due("key(1): its own wear counts alone", x.key(1), 3);
        x.throwKey(2);
        check.due("key(0): made anew", x.key(0), 4);
        check.due("key(0)", x.key(0), NOT_POSSIBLE);
    }

    // ---- promise 4

    private static void boxUnderNoSuchKey() {
        check.part("Promise 4, box: NO_SUCH if there is no such live key: one that was never made");
        Recorded x = Houses.chain(3);
        check.due("box(3)", x.box(3), NO_SUCH);
        for (int key : ODD_NUMBERS) {
            check.due("box(" + key + ")", x.box(key), NO_SUCH);
        }
        check.due("box(2), the last one", x.box(2), 0);
    }

    private static void boxUnderNone() {
        check.part("Promise 4, box: NONE is no live key");
        Recorded x = Houses.chain(1);
        check.due("box(NONE)", x.box(NONE), NO_SUCH);
        check.due("boxes", x.count(2), 0);
    }

    private static void boxUnderAKeyThatIsNotLive() {
        check.part("Promise 4, box: NO_SUCH if there is no such live key: one that was thrown away");
        Recorded x = Houses.tree();
        x.throwKey(1);
        for (int key = 1; key < 4; key++) {
            check.due("box(" + key + ")", x.box(key), NO_SUCH);
        }
        check.due("box(0)", x.box(0), 4);
    }

    private static void twentyBoxes() {
        check.part("Promise 4, box: TOO_MANY if there are 20 boxes");
        Recorded x = Houses.rootWithBoxes(19);
        check.due("box(0), the last one", x.box(0), 19);
        check.due("box(0)", x.box(0), TOO_MANY);
        check.due("boxes", x.count(2), 20);
        check.due("wraps", x.count(4), 20);
    }

    private static void twentyBoxesThatAreNotLive() {
        check.part("Promise 4, box: TOO_MANY if there are 20 boxes, live or not");
        Recorded x = Houses.rootWithBoxes(20);
        x.throwKey(0);
        x.key(NONE);
        check.due("live boxes", x.count(3), 0);
        check.due("box(1)", x.box(1), TOO_MANY);
    }

    private static void boxWithTheLastWrap() {
        check.part("Promise 4, box: TOO_MANY if there would be more than 120 wraps");
        Recorded x = Houses.withWraps(119);
        check.due("box(1)", x.box(1), 0);
        check.due("wraps", x.count(4), 120);
        check.due("box(1)", x.box(1), TOO_MANY);
        check.due("box(0)", x.box(0), TOO_MANY);
        check.due("boxes", x.count(2), 1);
    }

    private static void boxUnderAWornKey() {
        check.part("Promise 4, box: NOT_POSSIBLE if the key cannot close one more wrap");
        Recorded x = Houses.chain(2);
        x.wear(2);
        check.due("box(0)", x.box(0), 0);
        check.due("box(0)", x.box(0), NOT_POSSIBLE);
        check.due("box(1): its own wear counts alone", x.box(1), 1);
        check.due("box(1)", x.box(1), 2);
        check.due("box(1)", x.box(1), NOT_POSSIBLE);
    }

    // ---- promise 5

    private static void copyOfNoSuchWrap() {
        check.part("Promise 5, copy: NO_SUCH if there is no such wrap");
        Recorded x = Houses.chain(3);
        check.due("copy(2, 0)", x.copy(2, 0), NO_SUCH);
        for (int wrap : ODD_NUMBERS) {
            check.due("copy(" + wrap + ", 0)", x.copy(wrap, 0), NO_SUCH);
        }
        check.due("copy(NONE, 0)", x.copy(NONE, 0), NO_SUCH);
        check.due("copy(1, 0), the last one", x.copy(1, 0), 1);
        check.due("copies", x.count(6), 1);
    }

    private static void copyOfTheLastWrap() {
        check.part("Promise 5, copy: the last of 120 wraps");
        Recorded x = Houses.withWraps(120);
        check.due("copy(119, 2)", x.copy(119, 2), 1);
        check.due("copy(120, 2)", x.copy(120, 2), NO_SUCH);
        check.due("places", x.wrap(119, 5), 4);
    }

    private static void copyToNoPlace() {
        check.part("Promise 5, copy: BAD_VALUE if place is out of range");
        Recorded x = Houses.chain(2);
        for (int place : new int[] {-1, 3, 4, 7, 8, 31, 32, 33, 34, NONE, LEAST, MOST}) {
            check.due("copy(0, " + place + ")", x.copy(0, place), BAD_VALUE);
        }
        check.due("copies", x.count(6), 0);
        check.due("in the house", x.wrap(0, 4), 1);
        check.due("copy(0, 0)", x.copy(0, 0), 1);
        check.due("copy(0, 2)", x.copy(0, 2), 1);
    }

    private static void copyOfABurntWrap() {
        check.part("Promise 5, copy: NOT_POSSIBLE if it is burnt in the house");
        Recorded x = Houses.chain(2);
        x.renew(0);
        for (int place = 0; place < 3; place++) {
            check.due("copy(0, " + place + ")", x.copy(0, place), NOT_POSSIBLE);
        }
        check.due("copies", x.count(6), 0);
        check.due("copy(1, 0)", x.copy(1, 0), 1);
    }

    private static void copyThatIsThere() {
        check.part("Promise 5, copy: NOT_POSSIBLE if it has a copy there already");
        Recorded x = Houses.chain(2);
        for (int place = 0; place < 3; place++) {
            check.due("copy(0, " + place + ")", x.copy(0, place), 1);
            check.due("copy(0, " + place + ") again", x.copy(0, place), NOT_POSSIBLE);
        }
        check.due("copies", x.count(6), 3);
    }

    private static void copyAfterBurning() {
        check.part("Promise 5, copy: NOT_POSSIBLE if it is burnt in the house, though a copy stands elsewhere");
        Recorded x = Houses.chain(2);
        x.copy(0, 1);
        x.renew(1);
        check.due("copy(0, 0)", x.copy(0, 0), NOT_POSSIBLE);
        check.due("copy(0, 1)", x.copy(0, 1), NOT_POSSIBLE);
        check.due("places", x.wrap(0, 5), 2);
    }

    private static void copiesInThisPlace() {
        check.part("Promise 5, copy: how many copies there are in this place then");
        Recorded x = Houses.rootWithBoxes(3);
        check.due("copy(0, 0)", x.copy(0, 0), 1);
        check.due("copy(1, 1)", x.copy(1, 1), 1);
        check.due("copy(1, 0)", x.copy(1, 0), 2);
        check.due("copy(2, 2)", x.copy(2, 2), 1);
        x.throwBox(0);
        check.due("copy(3, 0): copies of burnt wraps count", x.copy(3, 0), 3);
        check.due("copy(3, 1)", x.copy(3, 1), 2);
        check.due("copy(4, 2)", x.copy(4, 2), 2);
    }
}
