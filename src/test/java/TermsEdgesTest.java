/** The boundary cases that the first words and "Terms" name (but for texts), each with a test of its own. */
final class TermsEdgesTest {
    private static final int NO_SUCH = Check.NO_SUCH, BAD_VALUE = Check.BAD_VALUE, TOO_MANY = Check.TOO_MANY,
            NOT_POSSIBLE = Check.NOT_POSSIBLE, NONE = Check.NONE;
    private static final int MOST_CALLS = Recorded.MOST_CALLS;
    private static final Check check = new Check("TermsEdgesTest");

    public static void main(String[] args) {
        manyChanges();
        manyOrders();
        manyPuts();
        manySavedStates();
        manyUndos();

        numbersStartAt0();
        setsReachTheLastNumber();
        noneOnlyWithoutError();

        numbersStayWhenThrownAway();
        liveUntilThrownAway();
        aboveARoot();
        aboveTheLastOfTwenty();
        makeAndWearAtFirst();
        wearBelowWearClosesOneMore();
        wearAtWearClosesNoMore();
        wearPastWearClosesNoMore();
        raisedWearClosesMore();

        wrapsThatAreBurntCount();
        latestMakesAreWrapped();
        wrapsTakeWearOfTheCloser();
        nothingIsBurntOutside();
        safeHasLiveRoots();
        safeHasNoOldMakes();
        safeHasNoThrownRoots();
        safeHasNothingElse();
        atHandInTheHouse();
        atHandInEachPlace();
        closedByWhatCannotBeHad();
        check.end();
    }

    // ---- 512 calls

    private static void manyChanges() {
        check.part("An object is used for at most 512 calls: changes");
        Recorded x = new Recorded();
        x.key(NONE);
        while (x.calls() < MOST_CALLS - 3) {
            check.due("renew(0)", x.renew(0), 0);
        }
        check.due("call 510", x.canHave(0, 508, 0), 1);
        check.due("call 511", x.canHave(0, 507, 7), 0);
        check.due("call 512", x.ofKey(0, 2), 508);
    }

    private static void manyOrders() {
        check.part("An object is used for at most 512 calls: orders");
        Recorded x = new Recorded();
        x.order("k-;k-;k-");
        int make = 0;
        while (x.calls() < MOST_CALLS - 10) {
            check.due("carryOut()", x.order("r2;r2;r2;r2;r2;r2;r2;r2;r2;r2;r2;r2;r2;r2;r2;r2;r2;r2;r2;r2"), 20);
            make += 20;
        }
        check.due("make", x.ofKey(2, 2), make);
        check.holds("a make past 1000", make > 1000);
    }

    private static void manyPuts() {
        check.part("An object is used for at most 512 calls: texts");
        Recorded x = new Recorded();
        x.key(NONE);
        x.key(0);
        while (x.calls() < MOST_CALLS - 4) {
            check.due("put", x.put(Check.number("c0@1;c0@")), 8);
            check.due("wipe()", x.wipe(), 8);
        }
        check.due("put", x.put(Check.number("c0@1")), 4);
        check.due("fault()", x.fault(), NONE);
        check.due("carryOut()", x.carryOut(), 1);
        check.due("call 512", x.wrap(0, 5), 2);
    }

    private static void manySavedStates() {
        check.part("An object is used for at most 512 calls: saved states");
        Recorded x = new Recorded();
        x.key(NONE);
        x.save(1);
        x.key(NONE);
        while (x.calls() < MOST_CALLS - 5) {
            check.due("save(0)", x.save(0), 2);
            check.due("restore(1)", x.restore(1), 1);
            check.due("restore(0)", x.restore(0), 2);
        }
        check.due("restore(1)", x.restore(1), 1);
        check.due("undo()", x.undo(), 5);
        check.due("keys", x.count(0), 2);
    }

    private static void manyUndos() {
        check.part("An object is used for at most 512 calls: undo");
        Recorded x = new Recorded();
        while (x.calls() < MOST_CALLS - 8) {
            x.wear(2 + x.calls() % 29);
        }
        for (int left = 5; left >= 0; left--) {
            check.due("undo()", x.undo(), left);
        }
        check.due("WEAR", x.count(7), 2 + (MOST_CALLS - 15) % 29);
        check.due("call 512", x.undo(), NOT_POSSIBLE);
    }

    // ---- conventions

    private static void numbersStartAt0() {
        check.part("Everything is numbered from 0");
        Recorded x = new Recorded();
        check.due("key(NONE)", x.key(NONE), 0);
        check.due("box(0)", x.box(0), 0);
        check.due("the first wrap holds it", x.wrap(0, 1), 0);
        check.due("the first step", x.way(0, 0), 0);
        check.due("the first place", x.copy(0, 0), 1);
        check.due("its set", x.wrap(0, 5), 1);
        check.due("the first slot", x.save(0), 1);
    }

    private static void setsReachTheLastNumber() {
        check.part("Sets are bit masks, up to key 19 and box 19");
        Recorded x = new Recorded();
        x.wear(30);
        x.key(NONE);
        Houses.hangKeys(x, 0, 19);
        Houses.hangBoxes(x, 19, 20);
        check.due("keys on 0", x.ofKey(0, 4), (1 << 20) - 2);
        check.due("boxes on 19", x.ofKey(19, 5), (1 << 20) - 1);
        check.due("to be opened", x.count(9), (1 << 20) - 1);
        check.due("lostBy(19)", x.lostBy(19), (1 << 20) - 1);
        x.copy(18, 0);
        x.copy(38, 2);
        check.due("places", x.wrap(38, 5), 4);
        check.due("leaks(0, 0, 5)", x.leaks(0, 0, 5), 1 << 19);
        x.wear(20);
        check.due("worn", x.count(8), 1 << 19);
        check.due("canOpen(19, 0)", x.canOpen(19, 0), 1);
        check.due("throwBox(19)", x.throwBox(19), 38);
        check.due("boxes on 19", x.ofKey(19, 5), (1 << 19) - 1);
        check.due("throwKey(19)", x.throwKey(19), 18);
        check.due("keys on 0", x.ofKey(0, 4), (1 << 19) - 2);
    }

    private static void noneOnlyWithoutError() {
        check.part("NONE is no error, and returned only if no error applies");
        Recorded x = new Recorded();
        check.due("mostWorn(0)", x.mostWorn(0), NONE);
        check.due("mostWorn(2)", x.mostWorn(2), BAD_VALUE);
        check.due("ofKey(0, 0): no such key", x.ofKey(0, 0), NO_SUCH);
        check.due("way(0, 0): no such box", x.way(0, 0), NO_SUCH);
        check.due("wrap(0, 0): no such wrap", x.wrap(0, 0), NO_SUCH);
        x.key(NONE);
        check.due("ofKey(0, 0)", x.ofKey(0, 0), NONE);
        x.box(0);
        check.due("wrap(0, 0)", x.wrap(0, 0), NONE);
        check.due("way(0, 1)", x.way(0, 1), NONE);
        check.due("way(0, -1)", x.way(0, -1), BAD_VALUE);
        x.throwBox(0);
        check.due("way(0, 1): not live", x.way(0, 1), NO_SUCH);
        x.order("k-");
        check.due("fault(): the pad is empty", x.fault(), 0);
        x.write("k-");
        check.due("fault()", x.fault(), NONE);
    }

    // ---- keys, boxes

    private static void numbersStayWhenThrownAway() {
        check.part("They keep their numbers");
        Recorded x = Houses.tree();
        x.throwKey(2);
        check.due("a new key", x.key(1), 4);
        check.due("a new box", x.box(3), 4);
        check.due("parent of 3", x.ofKey(3, 0), 1);
        check.due("key of box 1", x.ofBox(1, 0), 2);
        check.due("key of box 2", x.ofBox(2, 0), 1);
        check.due("live keys on 1", x.ofKey(1, 4), Check.set(3, 4));
        check.due("live boxes on 1", x.ofKey(1, 5), Check.set(2));
    }

    private static void liveUntilThrownAway() {
        check.part("A key, or a box, is live until it is thrown away");
        Recorded x = Houses.tree();
        x.renew(2);
        x.throwKey(3);
        x.throwBox(1);
        for (int k = 0; k < 4; k++) {
            check.due("key " + k, x.ofKey(k, 1), k == 3 ? 0 : 1);
        }
        for (int b = 0; b < 4; b++) {
            check.due("box " + b, x.ofBox(b, 1), b == 1 ? 0 : 1);
        }
    }

    private static void aboveARoot() {
        check.part("Above a key are its parent and so on, up to a root: above a root there is none");
        Recorded x = Houses.chain(2);
        x.key(NONE);
        check.due("above root 0", x.ofKey(0, 6), 0);
        check.due("above 1", x.ofKey(1, 6), 1);
        check.due("above root 2", x.ofKey(2, 6), 0);
    }

    private static void aboveTheLastOfTwenty() {
        check.part("Above a key are its parent and so on, up to a root: twenty keys in a chain");
        Recorded x = Houses.chain(20);
        check.due("box(19)", x.box(19), 0);
        for (int k = 0; k < 20; k++) {
            check.due("above " + k, x.ofKey(k, 6), k);
            check.due("way(0, " + k + ")", x.way(0, k), k);
            check.due("lostBy(" + k + ")", x.lostBy(k), 1);
        }
        check.due("way(0, 20)", x.way(0, 20), NONE);
        check.due("throwBox(0)", x.throwBox(0), 19);
        for (int k = 0; k < 20; k++) {
            check.due("make of " + k, x.ofKey(k, 2), 1);
        }
        check.due("throwKey(1)", x.throwKey(1), 0);
        check.due("live keys", x.count(1), 1);
    }

    private static void makeAndWearAtFirst() {
        check.part("A key has a make (0 at first), and wear (0 at first)");
        Recorded x = new Recorded();
        x.key(NONE);
        x.renew(0);
        x.key(0);
        x.key(NONE);
        for (int k = 1; k < 3; k++) {
            check.due("make of " + k, x.ofKey(k, 2), 0);
            check.due("wear of " + k, x.ofKey(k, 3), 0);
        }
    }

    private static void wearBelowWearClosesOneMore() {
        check.part("A key with less wear than WEAR can close one more: a wear of WEAR less 1");
        Recorded x = new Recorded();
        x.key(NONE);
        Houses.hangBoxes(x, 0, 7);
        check.due("wear", x.ofKey(0, 3), 7);
        check.due("worn", x.count(8), 0);
        check.due("left", x.mostWorn(1), 1);
        check.due("key(0)", x.key(0), 1);
    }

    private static void wearAtWearClosesNoMore() {
        check.part("A key with less wear than WEAR can close one more: a wear of WEAR");
        Recorded x = new Recorded();
        x.key(NONE);
        Houses.hangBoxes(x, 0, 8);
        check.due("wear", x.ofKey(0, 3), 8);
        check.due("worn", x.count(8), 1);
        check.due("left", x.mostWorn(1), 0);
        check.due("key(0)", x.key(0), NOT_POSSIBLE);
        check.due("box(0)", x.box(0), NOT_POSSIBLE);
    }

    private static void wearPastWearClosesNoMore() {
        check.part("A key with less wear than WEAR can close one more: a wear past WEAR");
        Recorded x = new Recorded();
        x.key(NONE);
        Houses.hangBoxes(x, 0, 5);
        x.wear(4);
        check.due("worn", x.count(8), 1);
        check.due("left", x.mostWorn(1), 0);
        check.due("key(0)", x.key(0), NOT_POSSIBLE);
        check.due("box(0)", x.box(0), NOT_POSSIBLE);
        check.due("wear stays", x.ofKey(0, 3), 5);
    }

    private static void raisedWearClosesMore() {
        check.part("A key with less wear than WEAR can close one more: WEAR 2 and WEAR 30");
        Recorded x = new Recorded();
        x.wear(2);
        x.key(NONE);
        Houses.hangBoxes(x, 0, 2);
        check.due("box(0)", x.box(0), NOT_POSSIBLE);
        x.wear(30);
        Houses.hangBoxes(x, 0, 18);
        Houses.hangKeys(x, 0, 9);
        check.due("wear", x.ofKey(0, 3), 29);
        check.due("worn", x.count(8), 0);
        check.due("key(0)", x.key(0), 10);
        check.due("worn", x.count(8), 1);
        check.due("key(0)", x.key(0), NOT_POSSIBLE);
    }

    // ---- wraps, places

    private static void wrapsThatAreBurntCount() {
        check.part("Up to 120 wraps, numbered in the order in which they were made (all that were ever made count)");
        Recorded x = Houses.withWraps(119);
        check.due("wraps", x.count(4), 119);
        check.due("in the house", x.count(5), 1);
        check.due("wrap(119, 0)", x.wrap(119, 0), NO_SUCH);
        check.due("key(0): the last wrap", x.key(0), 2);
        check.wrapIs(x, 119, 2, 0, 0, 118, 1, 0);
        check.due("key(0): one more", x.key(0), TOO_MANY);
        check.due("wrap(120, 0)", x.wrap(120, 0), NO_SUCH);
        check.due("wraps", x.count(4), 120);
        check.due("in the house", x.count(5), 2);
    }

    private static void latestMakesAreWrapped() {
        check.part("A wrap holds the latest make of it (or the box), and is closed by the latest make of its key");
        Recorded x = Houses.chain(2);
        x.renew(0);
        x.renew(0);
        x.renew(1);
        x.box(1);
        x.key(1);
        x.renew(0);
        check.wrapIs(x, 1, 1, 0, 0, 1, 0, 0);
        check.wrapIs(x, 2, 1, 0, 0, 2, 0, 0);
        check.wrapIs(x, 3, 1, 1, 0, 2, 0, 0);
        check.wrapIs(x, 4, NONE, 0, 1, 1, 1, 0);
        check.wrapIs(x, 5, 2, 0, 1, 1, 1, 0);
        check.wrapIs(x, 6, 1, 1, 0, 3, 1, 0);
        check.due("wraps", x.count(4), 7);
    }

    private static void wrapsTakeWearOfTheCloser() {
        check.part("The wear of this key becomes one more");
        Recorded x = Houses.chain(3);
        for (int k = 0; k < 3; k++) {
            check.due("wear of " + k, x.ofKey(k, 3), k == 2 ? 0 : 1);
        }
        x.box(1);
        check.due("wear of 1", x.ofKey(1, 3), 2);
        check.due("wear of 0", x.ofKey(0, 3), 1);
        x.renew(2);
        check.due("wear of 1", x.ofKey(1, 3), 3);
        check.due("wear of 2", x.ofKey(2, 3), 0);
        x.copy(0, 0);
        check.due("a copy takes none", x.ofKey(0, 3), 1);
    }

    private static void nothingIsBurntOutside() {
        check.part("Places 0, 1 and 2 outside, where nothing is ever burnt");
        Recorded x = Houses.tree();
        for (int w = 0; w < 7; w++) {
            x.copy(w, 0);
            x.copy(w, 1);
            x.copy(w, 2);
        }
        x.renew(1);
        x.throwBox(0);
        x.throwKey(2);
        x.throwKey(0);
        check.due("in the house", x.count(5), 0);
        check.due("copies", x.count(6), 21);
        for (int w = 0; w < 7; w++) {
            check.due("places of " + w, x.wrap(w, 5), 7);
        }
    }

    private static void safeHasLiveRoots() {
        check.part("The safe has the latest makes of all live roots");
        Recorded x = new Recorded();
        x.key(NONE);
        x.key(NONE);
        x.renew(1);
        check.due("root 0", x.canHave(0, 0, 0), 1);
        check.due("root 1", x.canHave(1, 1, 0), 1);
        check.due("wraps", x.count(4), 0);
    }

    private static void safeHasNoOldMakes() {
        check.part("The safe has nothing else: old makes");
        Recorded x = new Recorded();
        x.key(NONE);
        x.renew(0);
        x.renew(0);
        check.due("make 0", x.canHave(0, 0, 7), 0);
        check.due("make 1", x.canHave(0, 1, 7), 0);
        check.due("make 2", x.canHave(0, 2, 7), 1);
        check.due("make 3", x.canHave(0, 3, 7), 0);
    }

    private static void safeHasNoThrownRoots() {
        check.part("The safe has nothing else: roots that are not live");
        Recorded x = Houses.rootWithBoxes(1);
        x.key(NONE);
        x.copy(0, 0);
        x.throwKey(0);
        check.due("root 0", x.canHave(0, 0, 7), 0);
        check.due("what hung from it", x.canOpen(0, 7), 0);
        check.due("root 1", x.canHave(1, 0, 0), 1);
    }

    private static void safeHasNothingElse() {
        check.part("The safe has nothing else: keys that are no roots");
        Recorded x = Houses.chain(3);
        x.renew(1);
        check.due("an old make without a wrap at hand", x.canHave(1, 0, 7), 0);
        check.due("the latest one by its wrap", x.canHave(1, 1, 0), 1);
        x.throwKey(2);
        check.due("thrown away", x.canHave(2, 0, 7), 0);
    }

    private static void atHandInTheHouse() {
        check.part("A wrap is at hand if it is in the house");
        Recorded x = Houses.tree();
        for (int places = 0; places < 8; places++) {
            check.due("canHave(2, 0, " + places + ")", x.canHave(2, 0, places), 1);
            check.due("canOpen(0, " + places + ")", x.canOpen(0, places), 1);
        }
    }

    private static void atHandInEachPlace() {
        check.part("A wrap is at hand if a copy of it stands in one of the places");
        for (int place = 0; place < 3; place++) {
            Recorded x = Houses.chain(2);
            x.copy(0, place);
            x.renew(1);
            for (int places = 0; places < 8; places++) {
                check.due("canHave(1, 0, " + places + ")", x.canHave(1, 0, places), places >> place & 1);
            }
        }
    }

    private static void closedByWhatCannotBeHad() {
        check.part("A key can be had if a wrap at hand holds it and is closed by one that can be had");
        Recorded x = Houses.chain(3);
        x.copy(1, 0);
        x.copy(0, 1);
        x.renew(1);
        x.renew(2);
        check.due("the copy that holds it, alone", x.canHave(2, 0, 1), 0);
        check.due("the copy that holds the closer, alone", x.canHave(2, 0, 2), 0);
        check.due("both", x.canHave(2, 0, 3), 1);
        x.renew(0);
        check.due("the root is made anew", x.canHave(2, 0, 7), 0);
    }
}
