import java.util.function.Consumer;
import java.util.function.ToIntFunction;

/**
 * A call that returns an error changes nothing, and the first error that applies is returned; a question changes
 * nothing either. What is compared is the house, the pad, all that can be undone and both slots.
 */
final class RefusedTest {
    private static final int NO_SUCH = Check.NO_SUCH, BAD_VALUE = Check.BAD_VALUE, BAD_TEXT = Check.BAD_TEXT,
            TOO_MANY = Check.TOO_MANY, NOT_POSSIBLE = Check.NOT_POSSIBLE, NONE = Check.NONE;
    private static final Check check = new Check("RefusedTest");

    public static void main(String[] args) {
        wear();
        key();
        box();
        copy();
        renew();
        throwKey();
        throwBox();
        whatThereIs();
        whatCanBeOpened();
        whatIf();
        put();
        carryOut();
        undo();
        saveAndRestore();
        questionsThatAreAnswered();
        allThatChangesShows();
        check.end();
    }

    // ---- houses

    /** Box 0 under key 0, the same in slot 0, two changes to undo, two orders on the pad; and what the test needs. */
    private static Recorded house(Consumer<Recorded> more) {
        Recorded x = new Recorded();
        x.order("k-;b0");
        x.save(0);
        x.restore(0);
        x.throwKey(0);
        x.undo();
        x.write("r0;k-");
        more.accept(x);
        return x;
    }

    private static void asItIs(Recorded x) {
        check.due("boxes", x.count(2), 1);
    }

    private static void twentyKeys(Recorded x) {
        Houses.hangKeys(x, 0, 4);
        Houses.hangKeys(x, NONE, 15);
        check.due("keys", x.count(0), 20);
    }

    private static void twentyBoxes(Recorded x) {
        x.wear(30);
        Houses.hangBoxes(x, 0, 19);
        check.due("boxes", x.count(2), 20);
    }

    /** Key 1 and box 0 hang from key 0, which has a wear of 2. */
    private static void fullOfWraps(Recorded x) {
        x.key(0);
        for (int i = 0; i < 59; i++) {
            x.renew(0);
        }
        check.due("wraps", x.count(4), 120);
    }

    /** 119 wraps: key 1, box 0 and box 1 hang from key 0. */
    private static void oneWrapLeft(Recorded x) {
        x.key(0);
        for (int i = 0; i < 55; i++) {
            x.renew(0);
        }
        x.box(0);
        x.renew(0);
        x.renew(0);
        check.due("wraps", x.count(4), 119);
    }

    /** 120 wraps, and keys 1 and 2 and boxes 0 to 2 hang from key 0, where WEAR is 2. */
    private static void fullAndCrowded(Recorded x) {
        Houses.hangKeys(x, 0, 2);
        Houses.hangBoxes(x, 0, 2);
        for (int i = 0; i < 23; i++) {
            x.renew(0);
        }
        x.wear(2);
        check.due("wraps", x.count(4), 120);
    }

    /** Key 1 hangs from key 0, which has a wear of 2, as WEAR is; box 1 hangs from key 1. */
    private static void wornRoot(Recorded x) {
        x.key(0);
        x.box(1);
        x.wear(2);
        check.due("worn", x.count(8), 1);
    }

    /** Boxes 0 to 3 and key 1 hang from key 0, and WEAR is 2. */
    private static void crowdedRoot(Recorded x) {
        Houses.hangBoxes(x, 0, 3);
        x.key(0);
        x.wear(2);
    }

    // ---- how it is tested

    private static void same(String what, int due, Recorded x, ToIntFunction<Recorded> call) {
        check.part(what);
        String before = StateText.all(x);
        check.due("the call", call.applyAsInt(x), due);
        check.holds("nothing has changed", StateText.all(x).equals(before));
    }

    private static void refused(String what, int due, Consumer<Recorded> more, ToIntFunction<Recorded> call) {
        check.part(what);
        check.holds("the answer that is due is an error", due < 0 && due != NONE);
        same(what, due, house(more), call);
    }

    // ---- changes

    private static void wear() {
        refused("wear: BAD_VALUE below 2", BAD_VALUE, RefusedTest::asItIs, x -> x.wear(1));
        refused("wear: BAD_VALUE above 30", BAD_VALUE, RefusedTest::asItIs, x -> x.wear(31));
    }

    private static void key() {
        refused("key: NO_SUCH", NO_SUCH, RefusedTest::asItIs, x -> x.key(1));
        refused("key: NO_SUCH, not live", NO_SUCH, x -> x.throwKey(0), x -> x.key(0));
        refused("key: NO_SUCH before 20 keys", NO_SUCH, RefusedTest::twentyKeys, x -> x.key(20));
        refused("key: NO_SUCH before 120 wraps", NO_SUCH, RefusedTest::fullOfWraps, x -> x.key(2));
        refused("key: TOO_MANY, 20 keys", TOO_MANY, RefusedTest::twentyKeys, x -> x.key(1));
        refused("key: TOO_MANY, 20 keys, a root", TOO_MANY, RefusedTest::twentyKeys, x -> x.key(NONE));
        refused("key: TOO_MANY, 120 wraps", TOO_MANY, RefusedTest::fullOfWraps, x -> x.key(1));
        refused("key: TOO_MANY, 20 keys, before a worn parent", TOO_MANY, x -> {
            twentyKeys(x);
            x.wear(2);
        }, x -> x.key(0));
        refused("key: TOO_MANY, 120 wraps, before a worn parent", TOO_MANY, RefusedTest::fullAndCrowded, x -> x.key(0));
        refused("key: NOT_POSSIBLE", NOT_POSSIBLE, RefusedTest::wornRoot, x -> x.key(0));
    }

    private static void box() {
        refused("box: NO_SUCH", NO_SUCH, RefusedTest::asItIs, x -> x.box(1));
        refused("box: NO_SUCH, NONE", NO_SUCH, RefusedTest::asItIs, x -> x.box(NONE));
        refused("box: NO_SUCH, not live", NO_SUCH, x -> x.throwKey(0), x -> x.box(0));
        refused("box: NO_SUCH before 20 boxes", NO_SUCH, RefusedTest::twentyBoxes, x -> x.box(1));
        refused("box: NO_SUCH before 120 wraps", NO_SUCH, RefusedTest::fullOfWraps, x -> x.box(2));
        refused("box: TOO_MANY, 20 boxes", TOO_MANY, RefusedTest::twentyBoxes, x -> x.box(0));
        refused("box: TOO_MANY, 120 wraps", TOO_MANY, RefusedTest::fullOfWraps, x -> x.box(1));
        refused("box: TOO_MANY, 20 boxes, before a worn key", TOO_MANY, x -> {
            twentyBoxes(x);
            x.wear(2);
        }, x -> x.box(0));
        refused("box: TOO_MANY, 120 wraps, before a worn key", TOO_MANY, RefusedTest::fullAndCrowded, x -> x.box(0));
        refused("box: NOT_POSSIBLE", NOT_POSSIBLE, RefusedTest::wornRoot, x -> x.box(0));
    }

    private static void copy() {
        refused("copy: NO_SUCH", NO_SUCH, RefusedTest::asItIs, x -> x.copy(1, 0));
        refused("copy: NO_SUCH below 0", NO_SUCH, RefusedTest::asItIs, x -> x.copy(-1, 0));
        refused("copy: NO_SUCH, 120 wraps", NO_SUCH, RefusedTest::fullOfWraps, x -> x.copy(120, 0));
        refused("copy: NO_SUCH before BAD_VALUE", NO_SUCH, RefusedTest::asItIs, x -> x.copy(1, 3));
        refused("copy: BAD_VALUE above 2", BAD_VALUE, RefusedTest::asItIs, x -> x.copy(0, 3));
        refused("copy: BAD_VALUE below 0", BAD_VALUE, RefusedTest::asItIs, x -> x.copy(0, -1));
        refused("copy: BAD_VALUE before a burnt wrap", BAD_VALUE, x -> x.renew(0), x -> x.copy(0, 3));
        refused("copy: NOT_POSSIBLE, burnt", NOT_POSSIBLE, x -> x.renew(0), x -> x.copy(0, 1));
        refused("copy: NOT_POSSIBLE, there already", NOT_POSSIBLE, x -> x.copy(0, 1), x -> x.copy(0, 1));
    }

    private static void renew() {
        refused("renew: NO_SUCH", NO_SUCH, RefusedTest::asItIs, x -> x.renew(1));
        refused("renew: NO_SUCH, NONE", NO_SUCH, RefusedTest::asItIs, x -> x.renew(NONE));
        refused("renew: NO_SUCH, not live", NO_SUCH, x -> x.throwKey(0), x -> x.renew(0));
        refused("renew: NO_SUCH before 120 wraps", NO_SUCH, RefusedTest::fullOfWraps, x -> x.renew(2));
        refused("renew: TOO_MANY, a root", TOO_MANY, RefusedTest::oneWrapLeft, x -> x.renew(0));
        refused("renew: TOO_MANY, no root", TOO_MANY, RefusedTest::fullOfWraps, x -> x.renew(1));
        refused("renew: TOO_MANY before a crowded key", TOO_MANY, RefusedTest::fullAndCrowded, x -> x.renew(0));
        refused("renew: TOO_MANY before a worn parent", TOO_MANY, RefusedTest::fullAndCrowded, x -> x.renew(1));
        refused("renew: NOT_POSSIBLE, a worn parent", NOT_POSSIBLE, RefusedTest::wornRoot, x -> x.renew(1));
        refused("renew: NOT_POSSIBLE, a crowded root", NOT_POSSIBLE, RefusedTest::crowdedRoot, x -> x.renew(0));
        refused("renew: NOT_POSSIBLE, a crowded key", NOT_POSSIBLE, x -> {
            x.key(0);
            Houses.hangBoxes(x, 1, 4);
            x.wear(3);
        }, x -> x.renew(1));
    }

    private static void throwKey() {
        refused("throwKey: NO_SUCH", NO_SUCH, RefusedTest::asItIs, x -> x.throwKey(1));
        refused("throwKey: NO_SUCH, NONE", NO_SUCH, RefusedTest::asItIs, x -> x.throwKey(NONE));
        refused("throwKey: NO_SUCH, not live", NO_SUCH, x -> x.throwKey(0), x -> x.throwKey(0));
        refused("throwKey: NO_SUCH before 120 wraps", NO_SUCH, RefusedTest::fullAndCrowded, x -> x.throwKey(3));
        refused("throwKey: TOO_MANY", TOO_MANY, RefusedTest::oneWrapLeft, x -> x.throwKey(1));
        refused("throwKey: TOO_MANY before NOT_POSSIBLE", TOO_MANY, RefusedTest::fullAndCrowded, x -> x.throwKey(1));
        refused("throwKey: NOT_POSSIBLE", NOT_POSSIBLE, RefusedTest::crowdedRoot, x -> x.throwKey(1));
        refused("throwKey: NOT_POSSIBLE, further up", NOT_POSSIBLE, x -> {
            crowdedRoot(x);
            x.key(1);
        }, x -> x.throwKey(2));
    }

    private static void throwBox() {
        refused("throwBox: NO_SUCH", NO_SUCH, RefusedTest::asItIs, x -> x.throwBox(1));
        refused("throwBox: NO_SUCH, NONE", NO_SUCH, RefusedTest::asItIs, x -> x.throwBox(NONE));
        refused("throwBox: NO_SUCH, not live", NO_SUCH, x -> x.throwBox(0), x -> x.throwBox(0));
        refused("throwBox: NO_SUCH before 120 wraps", NO_SUCH, RefusedTest::fullAndCrowded, x -> x.throwBox(3));
        refused("throwBox: TOO_MANY", TOO_MANY, RefusedTest::oneWrapLeft, x -> x.throwBox(1));
        refused("throwBox: TOO_MANY before NOT_POSSIBLE", TOO_MANY, RefusedTest::fullAndCrowded, x -> x.throwBox(1));
        refused("throwBox: NOT_POSSIBLE", NOT_POSSIBLE, RefusedTest::crowdedRoot, x -> x.throwBox(0));
        refused("throwBox: NOT_POSSIBLE, further up", NOT_POSSIBLE, x -> {
            crowdedRoot(x);
            x.box(1);
        }, x -> x.throwBox(4));
    }

    // ---- questions

    private static void whatThereIs() {
        refused("ofKey: NO_SUCH before BAD_VALUE", NO_SUCH, RefusedTest::asItIs, x -> x.ofKey(1, 7));
        refused("ofKey: BAD_VALUE", BAD_VALUE, RefusedTest::asItIs, x -> x.ofKey(0, 7));
        refused("ofBox: NO_SUCH before BAD_VALUE", NO_SUCH, RefusedTest::asItIs, x -> x.ofBox(1, 4));
        refused("ofBox: BAD_VALUE", BAD_VALUE, RefusedTest::asItIs, x -> x.ofBox(0, 4));
        refused("wrap: NO_SUCH before BAD_VALUE", NO_SUCH, RefusedTest::asItIs, x -> x.wrap(1, 6));
        refused("wrap: BAD_VALUE", BAD_VALUE, RefusedTest::asItIs, x -> x.wrap(0, 6));
        refused("count: BAD_VALUE", BAD_VALUE, RefusedTest::asItIs, x -> x.count(12));
    }

    private static void whatCanBeOpened() {
        refused("canOpen: NO_SUCH before BAD_VALUE", NO_SUCH, RefusedTest::asItIs, x -> x.canOpen(1, 8));
        refused("canOpen: BAD_VALUE", BAD_VALUE, RefusedTest::asItIs, x -> x.canOpen(0, 8));
        refused("canHave: NO_SUCH before BAD_VALUE", NO_SUCH, RefusedTest::asItIs, x -> x.canHave(1, -1, 8));
        refused("canHave: BAD_VALUE, make", BAD_VALUE, RefusedTest::asItIs, x -> x.canHave(0, -1, 7));
        refused("canHave: BAD_VALUE, places", BAD_VALUE, RefusedTest::asItIs, x -> x.canHave(0, 0, 8));
        refused("way: NO_SUCH before BAD_VALUE", NO_SUCH, RefusedTest::asItIs, x -> x.way(1, -1));
        refused("way: BAD_VALUE", BAD_VALUE, RefusedTest::asItIs, x -> x.way(0, -1));
        refused("leaks: NO_SUCH before BAD_VALUE", NO_SUCH, RefusedTest::asItIs, x -> x.leaks(1, -1, 8));
        refused("leaks: NO_SUCH, no root", NO_SUCH, RefusedTest::wornRoot, x -> x.leaks(1, -1, 8));
        refused("leaks: BAD_VALUE, make", BAD_VALUE, RefusedTest::asItIs, x -> x.leaks(0, -1, 7));
        refused("leaks: BAD_VALUE, places", BAD_VALUE, RefusedTest::asItIs, x -> x.leaks(0, 0, 8));
    }

    private static void whatIf() {
        refused("lostBy: NO_SUCH", NO_SUCH, RefusedTest::asItIs, x -> x.lostBy(1));
        refused("lostBy: NO_SUCH, not live", NO_SUCH, x -> x.throwKey(0), x -> x.lostBy(0));
        refused("throwingMakes: BAD_VALUE before NO_SUCH", BAD_VALUE, RefusedTest::asItIs, x -> x.throwingMakes(2, 1));
        refused("throwingMakes: NO_SUCH, a key", NO_SUCH, RefusedTest::asItIs, x -> x.throwingMakes(0, 1));
        refused("throwingMakes: NO_SUCH, a box", NO_SUCH, RefusedTest::asItIs, x -> x.throwingMakes(1, 1));
        refused("throwingMakes: NOT_POSSIBLE, a key", NOT_POSSIBLE, RefusedTest::crowdedRoot,
                x -> x.throwingMakes(0, 1));
        refused("throwingMakes: NOT_POSSIBLE, a box", NOT_POSSIBLE, RefusedTest::crowdedRoot,
                x -> x.throwingMakes(1, 0));
        refused("mostWorn: BAD_VALUE", BAD_VALUE, RefusedTest::asItIs, x -> x.mostWorn(2));
        refused("mostWorn: BAD_VALUE before NONE", BAD_VALUE, x -> x.throwKey(0), x -> x.mostWorn(2));
    }

    // ---- texts

    private static void put() {
        refused("put: BAD_VALUE, no character", BAD_VALUE, RefusedTest::asItIs, x -> x.put(0));
        refused("put: BAD_VALUE, a code", BAD_VALUE, RefusedTest::asItIs, x -> x.put(Check.number(";k- ")));
        refused("put: BAD_VALUE, a bit above", BAD_VALUE, RefusedTest::asItIs, x -> x.put(1L << 40 | ';'));
        refused("put: BAD_VALUE before TOO_MANY", BAD_VALUE, x -> x.write(";k-".repeat(18)), x -> x.put(' '));
        refused("put: TOO_MANY", TOO_MANY, x -> x.write(";k-".repeat(18)), x -> x.put(Check.number(";k")));
    }

    private static void carryOut() {
        refused("carryOut: BAD_TEXT", BAD_TEXT, x -> x.write(";k"), x -> x.carryOut());
        refused("carryOut: BAD_TEXT at the last order", BAD_TEXT, x -> x.write(";k-;r0;b120"), x -> x.carryOut());
        refused("carryOut: BAD_TEXT, empty", BAD_TEXT, x -> x.wipe(), x -> x.carryOut());
    }

    // ---- undo, saving

    private static void undo() {
        refused("undo: NOT_POSSIBLE", NOT_POSSIBLE, x -> {
            x.undo();
            x.undo();
        }, x -> x.undo());
    }

    private static void saveAndRestore() {
        refused("save: BAD_VALUE above 1", BAD_VALUE, RefusedTest::asItIs, x -> x.save(2));
        refused("save: BAD_VALUE below 0", BAD_VALUE, RefusedTest::asItIs, x -> x.save(-1));
        refused("restore: BAD_VALUE above 1", BAD_VALUE, RefusedTest::asItIs, x -> x.restore(2));
        refused("restore: BAD_VALUE below 0", BAD_VALUE, RefusedTest::asItIs, x -> x.restore(-1));
        refused("restore: NOT_POSSIBLE", NOT_POSSIBLE, RefusedTest::asItIs, x -> x.restore(1));
    }

    private static void questionsThatAreAnswered() {
        Consumer<Recorded> more = x -> {
            x.key(0);
            x.box(1);
            x.copy(0, 1);
            x.renew(1);
        };
        same("ofKey", 1, house(more), x -> x.ofKey(1, 1));
        same("ofBox", 1, house(more), x -> x.ofBox(1, 3));
        same("wrap", 2, house(more), x -> x.wrap(0, 5));
        same("count", 3, house(more), x -> x.count(9));
        same("canOpen", 1, house(more), x -> x.canOpen(0, 2));
        same("canHave", 1, house(more), x -> x.canHave(1, 1, 0));
        same("way", 3, house(more), x -> x.way(1, 0));
        same("leaks", 1, house(more), x -> x.leaks(0, 0, 2));
        same("lostBy", 3, house(more), x -> x.lostBy(0));
        same("throwingMakes", 1, house(more), x -> x.throwingMakes(0, 1));
        same("throwingMakes", 2, house(more), x -> x.throwingMakes(1, 1));
        same("throwingMakes", 1, house(more), x -> x.throwingMakes(1, 0));
        same("mostWorn", 0, house(more), x -> x.mostWorn(0));
        same("fault", NONE, house(more), x -> x.fault());
    }

    /** What is compared above differs after each call that is not refused. */
    private static void allThatChangesShows() {
        check.part("what is compared");
        String before = StateText.all(house(x -> x.key(0)));
        shows(before, "wear", x -> x.wear(9));
        shows(before, "wear, the same", x -> x.wear(8));
        shows(before, "key", x -> x.key(NONE));
        shows(before, "box", x -> x.box(1));
        shows(before, "copy", x -> x.copy(0, 0));
        shows(before, "renew", x -> x.renew(0));
        shows(before, "throwKey", x -> x.throwKey(1));
        shows(before, "throwBox", x -> x.throwBox(0));
        shows(before, "put", x -> x.put('k'));
        shows(before, "wipe", x -> x.wipe());
        shows(before, "carryOut", x -> x.carryOut());
        shows(before, "undo", x -> x.undo());
        shows(before, "save(0)", x -> x.save(0));
        shows(before, "save(1)", x -> x.save(1));
        shows(before, "restore", x -> x.restore(0));
    }

    private static void shows(String before, String name, ToIntFunction<Recorded> call) {
        Recorded x = house(it -> it.key(0));
        check.holds(name + " is no error", call.applyAsInt(x) >= 0);
        check.holds(name + " shows", !StateText.all(x).equals(before));
    }
}
