/** The boundary cases of "Making anew, throwing away" and of promises 6 to 8, each with a test of its own. */
final class AnewEdgesTest {
    private static final int NO_SUCH = Check.NO_SUCH, TOO_MANY = Check.TOO_MANY, NOT_POSSIBLE = Check.NOT_POSSIBLE,
            NONE = Check.NONE;
    private static final int[] ODD_NUMBERS =
            {-1, -5, NONE, -7, Integer.MIN_VALUE, Integer.MAX_VALUE, 31, 32, 33, 64, 256, 1 << 16};
    private static final Check check = new Check("AnewEdgesTest");

    public static void main(String[] args) {
        renewOfALoneRoot();
        renewOfALoneKey();
        renewMakesOneMoreAndWear0();
        renewBurnsWhatHoldsOlderMakes();
        renewBurnsWhatOlderMakesClose();
        renewBurnsNothingElse();
        renewOfARootMakesNoWrapOfIt();
        renewOrder();
        renewWrapsWhatIsLiveAlone();
        renewNoSuch();
        renewNotLive();
        renewWithTheLastWraps();
        renewOfARootWith120Wraps();
        renewParentWithOneLeft();
        renewParentWorn();
        renewParentPastWear();
        renewRootNeedsNoParent();
        renewOwnWearPlaysNoPart();
        renewAsMuchAsWearHangs();
        renewMoreThanWearHangs();
        renewKeysAndBoxesTogether();
        renewOfThirty();

        throwTakesAllBelow();
        throwBurnsAllThatHoldsThem();
        throwMakesAllAboveAnew();
        throwLeavesWhatIsBeside();
        throwOrder();
        throwOfARoot();
        throwOfALoneChild();
        throwNoSuch();
        throwNotLive();
        throwWithTheLastWraps();
        throwOfARootWith120Wraps();
        throwAsMuchAsWearHangs();
        throwMoreThanWearHangsFromTheParent();
        throwMoreThanWearHangsFromTheRoot();
        throwMoreThanWearHangsInTheMiddle();
        throwOwnHangingPlaysNoPart();
        throwWornAbovePlaysNoPart();
        throwHelpsNoCopy();
        throwOfTheLastKey();

        boxIsThrown();
        boxMakesAllAboveAnew();
        boxNoSuch();
        boxNotLive();
        boxWithTheLastWraps();
        boxAsMuchAsWearHangs();
        boxMoreThanWearHangs();
        boxMoreThanWearHangsFurtherUp();
        boxMoreThanWearHangsFromTheLastKey();
        boxWornAbovePlaysNoPart();
        boxHelpsNoCopy();
        check.end();
    }

    // ---- promise 6

    private static void renewOfALoneRoot() {
        check.part("Promise 6, renew: a root from which nothing hangs: no wrap");
        Recorded x = Houses.chain(1);
        check.due("renew(0)", x.renew(0), 0);
        check.due("make", x.ofKey(0, 2), 1);
        check.due("wraps", x.count(4), 0);
    }

    private static void renewOfALoneKey() {
        check.part("Promise 6, renew: a key from which nothing hangs: the wrap of it alone");
        Recorded x = Houses.chain(2);
        check.due("renew(1)", x.renew(1), 1);
        check.wrapIs(x, 0, 1, 0, 0, 0, 0, 0);
        check.wrapIs(x, 1, 1, 1, 0, 0, 1, 0);
        check.due("wraps", x.count(4), 2);
    }

    private static void renewMakesOneMoreAndWear0() {
        check.part("To make a key anew: its make becomes one more, its wear 0");
        Recorded x = Houses.tree();
        x.renew(3);
        x.renew(3);
        check.due("wear of 1", x.ofKey(1, 3), 5);
        check.due("renew(1)", x.renew(1), 4);
        check.due("make of 1", x.ofKey(1, 2), 1);
        check.due("wear of 1: what was wrapped then", x.ofKey(1, 3), 3);
        check.due("make of 0", x.ofKey(0, 2), 0);
        check.due("wear of 0: one more", x.ofKey(0, 3), 3);
        check.due("make of 2", x.ofKey(2, 2), 0);
        check.due("wear of 2", x.ofKey(2, 3), 2);
        check.due("make of 3", x.ofKey(3, 2), 2);
        x.throwBox(2);
        x.throwKey(2);
        x.throwKey(3);
        check.due("make of 1", x.ofKey(1, 2), 4);
        check.due("wear of 1: 0", x.ofKey(1, 3), 0);
    }

    private static void renewBurnsWhatHoldsOlderMakes() {
        check.part("Wraps that hold older makes of it are burnt in the house");
        Recorded x = Houses.chain(2);
        x.renew(1);
        x.renew(1);
        for (int w = 0; w < 3; w++) {
            check.due("wrap " + w + " holds make", x.wrap(w, 1), w);
            check.due("wrap " + w + " in the house", x.wrap(w, 4), w == 2 ? 1 : 0);
        }
    }

    private static void renewBurnsWhatOlderMakesClose() {
        check.part("Wraps closed by older makes of it are burnt in the house");
        Recorded x = Houses.rootWithBoxes(1);
        x.renew(0);
        x.renew(0);
        for (int w = 0; w < 3; w++) {
            check.due("wrap " + w + " is closed by make", x.wrap(w, 3), w);
            check.due("wrap " + w + " in the house", x.wrap(w, 4), w == 2 ? 1 : 0);
        }
    }

    private static void renewBurnsNothingElse() {
        check.part("Wraps that hold older makes of it, and wraps closed by older makes of it, and no others");
        Recorded x = Houses.tree();
        check.due("renew(2)", x.renew(2), 3);
        int[] inHouse = {1, 0, 0, 0, 1, 1, 1, 1, 1, 1};
        for (int w = 0; w < inHouse.length; w++) {
            check.due("wrap " + w + " in the house", x.wrap(w, 4), inHouse[w]);
        }
    }

    private static void renewOfARootMakesNoWrapOfIt() {
        check.part("If it is no root, a wrap of it is made: a root");
        Recorded x = Houses.tree();
        check.due("renew(0)", x.renew(0), 2);
        check.wrapIs(x, 7, 1, 0, 0, 1, 1, 0);
        check.wrapIs(x, 8, NONE, 3, 0, 1, 1, 0);
        check.due("wraps", x.count(4), 9);
    }

    private static void renewOrder() {
        check.part("A wrap of it, then of the keys in their order, then of the boxes");
        Recorded x = Houses.chain(2);
        x.box(1);
        x.key(1);
        x.box(1);
        x.key(1);
        check.due("renew(1)", x.renew(1), 5);
        check.wrapIs(x, 5, 1, 1, 0, 0, 1, 0);
        check.wrapIs(x, 6, 2, 0, 1, 1, 1, 0);
        check.wrapIs(x, 7, 3, 0, 1, 1, 1, 0);
        check.wrapIs(x, 8, NONE, 0, 1, 1, 1, 0);
        check.wrapIs(x, 9, NONE, 1, 1, 1, 1, 0);
    }

    private static void renewWrapsWhatIsLiveAlone() {
        check.part("Wraps of all that is live and hangs from it: what was thrown away is not wrapped");
        Recorded x = Houses.tree();
        x.throwBox(0);
        x.throwKey(3);
        int wraps = x.count(4);
        check.due("renew(2)", x.renew(2), 2);
        check.wrapIs(x, wraps, 2, 2, 1, 2, 1, 0);
        check.wrapIs(x, wraps + 1, NONE, 1, 2, 2, 1, 0);
        check.due("renew(1)", x.renew(1), 3);
    }

    private static void renewNoSuch() {
        check.part("Promise 6, renew: NO_SUCH if there is no such live key: one that was never made");
        Recorded x = Houses.chain(2);
        check.due("renew(2)", x.renew(2), NO_SUCH);
        for (int key : ODD_NUMBERS) {
            check.due("renew(" + key + ")", x.renew(key), NO_SUCH);
        }
    }

    private static void renewNotLive() {
        check.part("Promise 6, renew: NO_SUCH if there is no such live key: one that was thrown away");
        Recorded x = Houses.tree();
        x.throwKey(1);
        for (int key = 1; key < 4; key++) {
            check.due("renew(" + key + ")", x.renew(key), NO_SUCH);
        }
        x.throwKey(0);
        check.due("renew(0)", x.renew(0), NO_SUCH);
    }

    private static void renewWithTheLastWraps() {
        check.part("Promise 6, renew: TOO_MANY if there would be more than 120 wraps");
        Recorded x = Houses.withWraps(114);
        x.box(1);
        x.box(1);
        check.due("renew(1)", x.renew(1), 3);
        check.due("wraps", x.count(4), 119);
        check.due("renew(1): three more", x.renew(1), TOO_MANY);
        check.due("renew(0): one more", x.renew(0), 1);
        check.due("wraps", x.count(4), 120);
        check.due("renew(0)", x.renew(0), TOO_MANY);
        x = Houses.withWraps(114);
        x.box(1);
        x.box(1);
        x.renew(0);
        check.due("renew(1): up to 120", x.renew(1), 3);
        check.due("wraps", x.count(4), 120);
    }

    private static void renewOfARootWith120Wraps() {
        check.part("Promise 6, renew: a root that needs no wrap, with 120 wraps");
        Recorded x = Houses.withWraps(120);
        x.key(NONE);
        check.due("renew(2)", x.renew(2), 0);
        check.due("renew(1): a wrap of it", x.renew(1), TOO_MANY);
        check.due("make of 2", x.ofKey(2, 2), 1);
    }

    private static void renewParentWithOneLeft() {
        check.part("It needs that its parent can close one more wrap: it can close just one");
        Recorded x = Houses.chain(2);
        Houses.hangBoxes(x, 0, 6);
        check.due("wear of 0", x.ofKey(0, 3), 7);
        check.due("renew(1)", x.renew(1), 1);
        check.due("wear of 0", x.ofKey(0, 3), 8);
    }

    private static void renewParentWorn() {
        check.part("It needs that its parent can close one more wrap: it can close none");
        Recorded x = Houses.chain(2);
        Houses.hangBoxes(x, 0, 7);
        check.due("wear of 0", x.ofKey(0, 3), 8);
        check.due("renew(1)", x.renew(1), NOT_POSSIBLE);
        check.due("make of 1", x.ofKey(1, 2), 0);
        check.due("in the house", x.count(5), 8);
    }

    private static void renewParentPastWear() {
        check.part("It needs that its parent can close one more wrap: its wear is past WEAR");
        Recorded x = Houses.chain(2);
        Houses.hangBoxes(x, 0, 3);
        x.wear(3);
        check.due("renew(1)", x.renew(1), NOT_POSSIBLE);
        x.wear(5);
        check.due("renew(1)", x.renew(1), 1);
    }

    private static void renewRootNeedsNoParent() {
        check.part("It needs that its parent can close one more wrap, if it is no root: a root");
        Recorded x = new Recorded();
        x.wear(2);
        x.key(NONE);
        x.key(NONE);
        Houses.hangBoxes(x, 0, 2);
        check.due("renew(1): root 0 is worn", x.renew(1), 0);
        check.due("renew(0)", x.renew(0), 2);
    }

    private static void renewOwnWearPlaysNoPart() {
        check.part("It needs that its parent can close one more wrap, and not that it could itself");
        Recorded x = Houses.chain(2);
        Houses.hangBoxes(x, 1, 8);
        check.due("worn", x.count(8), Check.set(1));
        check.due("renew(1)", x.renew(1), 9);
        check.due("worn again", x.count(8), Check.set(1));
    }

    private static void renewAsMuchAsWearHangs() {
        check.part("It needs that no more than WEAR live keys and boxes hang from it: as many as WEAR");
        Recorded x = Houses.chain(2);
        Houses.hangBoxes(x, 1, 3);
        x.wear(3);
        check.due("renew(1)", x.renew(1), 4);
        check.due("wear of 1", x.ofKey(1, 3), 3);
    }

    private static void renewMoreThanWearHangs() {
        check.part("It needs that no more than WEAR live keys and boxes hang from it: one more than WEAR");
        Recorded x = Houses.chain(2);
        Houses.hangBoxes(x, 1, 4);
        x.wear(3);
        check.due("renew(1)", x.renew(1), NOT_POSSIBLE);
        check.due("renew(0): what hangs from 1 plays no part", x.renew(0), 1);
        x.throwBox(3);
        check.due("renew(1): live ones alone", x.renew(1), 4);
    }

    private static void renewKeysAndBoxesTogether() {
        check.part("It needs that no more than WEAR live keys and boxes hang from it: keys and boxes together");
        Recorded x = Houses.chain(1);
        Houses.hangBoxes(x, 0, 2);
        Houses.hangKeys(x, 0, 2);
        x.wear(3);
        check.due("renew(0)", x.renew(0), NOT_POSSIBLE);
        x.wear(4);
        check.due("renew(0)", x.renew(0), 4);
    }

    private static void renewOfThirty() {
        check.part("It needs that no more than WEAR live keys and boxes hang from it: 30");
        Recorded x = Houses.rootWithBoxes(20);
        Houses.hangKeys(x, 0, 10);
        check.due("renew(0)", x.renew(0), 30);
        check.due("renew(0)", x.renew(0), 30);
        check.due("wear of 0", x.ofKey(0, 3), 30);
        check.due("wraps", x.count(4), 90);
        check.due("renew(0): the last wraps", x.renew(0), 30);
        check.due("renew(0)", x.renew(0), TOO_MANY);
        x.wear(29);
        check.due("renew(0): TOO_MANY is named first", x.renew(0), TOO_MANY);
    }

    // ---- promise 7

    private static void throwTakesAllBelow() {
        check.part("To throw a key away: it, and all keys and boxes above which it is, are not live any more");
        Recorded x = Houses.tree();
        x.key(2);
        x.box(4);
        x.key(4);
        x.box(5);
        check.due("throwKey(2)", x.throwKey(2), 4);
        int[] keys = {1, 1, 0, 1, 0, 0};
        int[] boxes = {0, 0, 1, 1, 0, 0};
        for (int i = 0; i < 6; i++) {
            check.due("key " + i, x.ofKey(i, 1), keys[i]);
            check.due("box " + i, x.ofBox(i, 1), boxes[i]);
        }
    }

    private static void throwBurnsAllThatHoldsThem() {
        check.part("All wraps that hold one of them are burnt in the house");
        Recorded x = Houses.chain(4);
        x.box(3);
        x.box(2);
        x.renew(3);
        check.due("throwKey(1)", x.throwKey(1), 0);
        check.due("in the house", x.count(5), 0);
        x = Houses.chain(2);
        x.box(1);
        x.key(NONE);
        x.box(2);
        check.due("throwKey(0): a root", x.throwKey(0), 0);
        check.due("in the house", x.count(5), 1);
        check.due("the other root's", x.wrap(2, 4), 1);
    }

    private static void throwMakesAllAboveAnew() {
        check.part("Then all keys above it are made anew: the makes of all of them become one more, their wear 0");
        Recorded x = Houses.tree();
        x.renew(2);
        check.due("throwKey(2)", x.throwKey(2), 4);
        int[] makes = {1, 1, 1, 0};
        int[] wears = {2, 2, 2, 0};
        for (int k = 0; k < 4; k++) {
            check.due("make of " + k, x.ofKey(k, 2), makes[k]);
            check.due("wear of " + k, x.ofKey(k, 3), wears[k]);
        }
    }

    private static void throwLeavesWhatIsBeside() {
        check.part("All keys above it are made anew, and no others; what hangs from others stays wrapped");
        Recorded x = Houses.tree();
        x.key(NONE);
        x.box(4);
        check.due("throwKey(3)", x.throwKey(3), 4);
        int[] inHouse = {0, 0, 1, 1, 0, 0, 0, 1};
        for (int w = 0; w < inHouse.length; w++) {
            check.due("wrap " + w + " in the house", x.wrap(w, 4), inHouse[w]);
        }
        for (int k = 2; k < 5; k++) {
            check.due("make of " + k, x.ofKey(k, 2), 0);
        }
        check.due("wear of 2", x.ofKey(2, 3), 2);
        check.due("wear of 4", x.ofKey(4, 3), 1);
    }

    private static void throwOrder() {
        check.part("From the root on down, wraps of all that is live and hangs from each of them are made, keys first");
        Recorded x = new Recorded();
        x.key(NONE);
        x.box(0);
        x.key(0);
        x.box(1);
        x.key(1);
        x.key(1);
        x.key(0);
        check.due("throwKey(2)", x.throwKey(2), 5);
        check.wrapIs(x, 6, 1, 1, 0, 1, 1, 0);
        check.wrapIs(x, 7, 4, 0, 0, 1, 1, 0);
        check.wrapIs(x, 8, NONE, 0, 0, 1, 1, 0);
        check.wrapIs(x, 9, 3, 0, 1, 1, 1, 0);
        check.wrapIs(x, 10, NONE, 1, 1, 1, 1, 0);
        check.due("wraps", x.count(4), 11);
    }

    private static void throwOfARoot() {
        check.part("Promise 7, throwKey: a root: nothing is above it, no wrap is made");
        Recorded x = Houses.tree();
        x.key(NONE);
        check.due("throwKey(0)", x.throwKey(0), 0);
        check.due("live keys", x.count(1), 1);
        check.due("live boxes", x.count(3), 0);
        check.due("wraps", x.count(4), 7);
        check.due("make of 0", x.ofKey(0, 2), 0);
        check.due("make of 4", x.ofKey(4, 2), 0);
    }

    private static void throwOfALoneChild() {
        check.part("Promise 7, throwKey: nothing else hangs from the keys above: no wrap is made");
        Recorded x = Houses.chain(2);
        check.due("throwKey(1)", x.throwKey(1), 0);
        check.due("make of 0", x.ofKey(0, 2), 1);
        check.due("wear of 0", x.ofKey(0, 3), 0);
        check.due("wraps", x.count(4), 1);
    }

    private static void throwNoSuch() {
        check.part("Promise 7, throwKey: NO_SUCH if there is no such live key: one that was never made");
        Recorded x = Houses.chain(2);
        check.due("throwKey(2)", x.throwKey(2), NO_SUCH);
        for (int key : ODD_NUMBERS) {
            check.due("throwKey(" + key + ")", x.throwKey(key), NO_SUCH);
        }
        check.due("live keys", x.count(1), 2);
    }

    private static void throwNotLive() {
        check.part("Promise 7, throwKey: NO_SUCH if there is no such live key: one that was thrown away");
        Recorded x = Houses.tree();
        check.due("throwKey(1)", x.throwKey(1), 1);
        for (int key = 1; key < 4; key++) {
            check.due("throwKey(" + key + ")", x.throwKey(key), NO_SUCH);
        }
        check.due("throwKey(0)", x.throwKey(0), 0);
        check.due("throwKey(0) again", x.throwKey(0), NO_SUCH);
    }

    private static void throwWithTheLastWraps() {
        check.part("Promise 7, throwKey: TOO_MANY if there would be more than 120 wraps");
        for (int before = 116; before < 119; before++) {
            Recorded x = Houses.withWraps(before - 3);
            x.key(0);
            x.box(0);
            x.box(0);
            check.due("wraps", x.count(4), before);
            check.due("throwKey(2): three more", x.throwKey(2), before > 117 ? TOO_MANY : 3);
            check.due("live keys", x.count(1), before > 117 ? 3 : 2);
            check.due("wraps", x.count(4), before > 117 ? before : before + 3);
        }
    }

    private static void throwOfARootWith120Wraps() {
        check.part("Promise 7, throwKey: what needs no wrap, with 120 wraps");
        Recorded x = Houses.withWraps(120);
        check.due("throwKey(1)", x.throwKey(1), 0);
        check.due("throwKey(0)", x.throwKey(0), 0);
        check.due("wraps", x.count(4), 120);
        check.due("in the house", x.count(5), 0);
    }

    private static void throwAsMuchAsWearHangs() {
        check.part("No more than WEAR hang from any of them, without what is thrown away: as many as WEAR");
        Recorded x = Houses.chain(3);
        Houses.hangBoxes(x, 1, 3);
        Houses.hangBoxes(x, 0, 2);
        x.wear(3);
        check.due("throwKey(2): 3 hang from 0, 3 from 1", x.throwKey(2), 6);
        check.due("wear of 0", x.ofKey(0, 3), 3);
        check.due("wear of 1", x.ofKey(1, 3), 3);
    }

    private static void throwMoreThanWearHangsFromTheParent() {
        check.part("No more than WEAR hang from any of them: one more than WEAR from the parent");
        Recorded x = Houses.chain(3);
        Houses.hangBoxes(x, 1, 4);
        x.wear(3);
        check.due("throwKey(2)", x.throwKey(2), NOT_POSSIBLE);
        check.due("throwingMakes(0, 2)", x.throwingMakes(0, 2), NOT_POSSIBLE);
        check.due("live keys", x.count(1), 3);
    }

    private static void throwMoreThanWearHangsFromTheRoot() {
        check.part("No more than WEAR hang from any of them: one more than WEAR from the root");
        Recorded x = Houses.chain(4);
        Houses.hangBoxes(x, 0, 3);
        x.wear(3);
        check.due("throwKey(3)", x.throwKey(3), NOT_POSSIBLE);
        check.due("throwKey(2)", x.throwKey(2), NOT_POSSIBLE);
        check.due("throwKey(1): without what is thrown away", x.throwKey(1), 3);
    }

    private static void throwMoreThanWearHangsInTheMiddle() {
        check.part("No more than WEAR hang from any of them: one more than WEAR from a key between");
        Recorded x = Houses.chain(4);
        Houses.hangBoxes(x, 1, 2);
        x.wear(2);
        check.due("throwKey(3)", x.throwKey(3), NOT_POSSIBLE);
        check.due("throwKey(2)", x.throwKey(2), 3);
    }

    private static void throwOwnHangingPlaysNoPart() {
        check.part("No more than WEAR hang from any of the keys above: what hangs from the key itself plays no part");
        Recorded x = Houses.chain(2);
        Houses.hangBoxes(x, 1, 5);
        x.box(0);
        x.wear(2);
        check.due("throwingMakes(0, 1)", x.throwingMakes(0, 1), 1);
        check.due("throwKey(1)", x.throwKey(1), 1);
        x = Houses.rootWithBoxes(5);
        x.wear(2);
        check.due("throwKey(0): a root", x.throwKey(0), 0);
    }

    private static void throwWornAbovePlaysNoPart() {
        check.part("It needs no more: keys above that can close no more wraps are made anew");
        Recorded x = Houses.chain(3);
        x.wear(2);
        x.renew(2);
        x.renew(1);
        check.due("worn", x.count(8), Check.set(0));
        x.renew(2);
        check.due("worn", x.count(8), Check.set(0, 1));
        check.due("throwKey(2)", x.throwKey(2), 1);
        check.due("worn", x.count(8), 0);
    }

    private static void throwHelpsNoCopy() {
        check.part("Keys that are thrown away so that no copy helps any more");
        Recorded x = Houses.chain(3);
        x.box(2);
        for (int w = 0; w < 3; w++) {
            x.copy(w, 0);
        }
        check.due("throwKey(2)", x.throwKey(2), 1);
        check.due("canOpen(0, 7)", x.canOpen(0, 7), 0);
        check.due("canHave(2, 0, 7)", x.canHave(2, 0, 7), 0);
        check.due("canHave(1, 0, 7)", x.canHave(1, 0, 7), 0);
        check.due("canHave(1, 1, 0)", x.canHave(1, 1, 0), 1);
    }

    private static void throwOfTheLastKey() {
        check.part("To throw a key away: the last of 20 keys, with the last of 20 boxes");
        Recorded x = Houses.chain(20);
        x.wear(30);
        Houses.hangBoxes(x, 19, 20);
        check.due("throwKey(19)", x.throwKey(19), 18);
        check.due("live keys", x.count(1), 19);
        check.due("live boxes", x.count(3), 0);
        check.due("in the house", x.count(5), 18);
        check.due("make of 18", x.ofKey(18, 2), 1);
        check.due("make of 19", x.ofKey(19, 2), 0);
    }

    // ---- promise 8

    private static void boxIsThrown() {
        check.part("To throw a box away goes likewise: the box alone is not live any more, its wraps are burnt");
        Recorded x = Houses.tree();
        check.due("throwBox(0)", x.throwBox(0), 6);
        check.due("live keys", x.count(1), 4);
        for (int b = 0; b < 4; b++) {
            check.due("box " + b, x.ofBox(b, 1), b == 0 ? 0 : 1);
        }
        check.due("its wrap", x.wrap(2, 4), 0);
    }

    private static void boxMakesAllAboveAnew() {
        check.part("To throw a box away goes likewise: also the key from which it hangs is made anew, from the root on");
        Recorded x = Houses.tree();
        check.due("throwBox(1)", x.throwBox(1), 6);
        int[] makes = {1, 1, 1, 0};
        int[] wears = {2, 3, 1, 0};
        for (int k = 0; k < 4; k++) {
            check.due("make of " + k, x.ofKey(k, 2), makes[k]);
            check.due("wear of " + k, x.ofKey(k, 3), wears[k]);
        }
        check.wrapIs(x, 7, 1, 1, 0, 1, 1, 0);
        check.wrapIs(x, 8, NONE, 3, 0, 1, 1, 0);
        check.wrapIs(x, 9, 2, 1, 1, 1, 1, 0);
        check.wrapIs(x, 10, 3, 0, 1, 1, 1, 0);
        check.wrapIs(x, 11, NONE, 2, 1, 1, 1, 0);
        check.wrapIs(x, 12, NONE, 0, 2, 1, 1, 0);
        check.due("in the house", x.count(5), 6);
    }

    private static void boxNoSuch() {
        check.part("Promise 8, throwBox: NO_SUCH if there is no such live box: one that was never made");
        Recorded x = Houses.rootWithBoxes(2);
        check.due("throwBox(2)", x.throwBox(2), NO_SUCH);
        for (int box : ODD_NUMBERS) {
            check.due("throwBox(" + box + ")", x.throwBox(box), NO_SUCH);
        }
        check.due("live boxes", x.count(3), 2);
        check.due("throwBox(1), the last one", x.throwBox(1), 1);
    }

    private static void boxNotLive() {
        check.part("Promise 8, throwBox: NO_SUCH if there is no such live box: one that was thrown away");
        Recorded x = Houses.tree();
        check.due("throwBox(2)", x.throwBox(2), 4);
        check.due("throwBox(2) again", x.throwBox(2), NO_SUCH);
        x.throwKey(2);
        check.due("throwBox(0): went with its key", x.throwBox(0), NO_SUCH);
        check.due("throwBox(3)", x.throwBox(3), 1);
    }

    private static void boxWithTheLastWraps() {
        check.part("Promise 8, throwBox: TOO_MANY if there would be more than 120 wraps");
        for (int before = 116; before < 119; before++) {
            Recorded x = Houses.withWraps(before - 3);
            Houses.hangBoxes(x, 0, 3);
            check.due("wraps", x.count(4), before);
            check.due("throwBox(2): three more", x.throwBox(2), before > 117 ? TOO_MANY : 3);
            check.due("live boxes", x.count(3), before > 117 ? 3 : 2);
            check.due("wraps", x.count(4), before > 117 ? before : before + 3);
        }
        Recorded x = new Recorded();
        Houses.fillWithWraps(x, 119);
        x.key(NONE);
        x.box(2);
        check.due("wraps", x.count(4), 120);
        check.due("throwBox(0): needs no wrap", x.throwBox(0), 0);
    }

    private static void boxAsMuchAsWearHangs() {
        check.part("Promise 8, throwBox: as many as WEAR hang from each key above, without the box");
        Recorded x = Houses.chain(2);
        Houses.hangBoxes(x, 1, 3);
        x.box(0);
        x.wear(2);
        check.due("throwBox(0)", x.throwBox(0), 4);
        check.due("wear of 1", x.ofKey(1, 3), 2);
        check.due("wear of 0", x.ofKey(0, 3), 2);
    }

    private static void boxMoreThanWearHangs() {
        check.part("Promise 8, throwBox: NOT_POSSIBLE if one more than WEAR hang from its key, without the box");
        Recorded x = Houses.chain(2);
        Houses.hangBoxes(x, 1, 4);
        x.wear(2);
        check.due("throwBox(0)", x.throwBox(0), NOT_POSSIBLE);
        check.due("throwingMakes(1, 0)", x.throwingMakes(1, 0), NOT_POSSIBLE);
        check.due("live boxes", x.count(3), 4);
    }

    private static void boxMoreThanWearHangsFurtherUp() {
        check.part("Promise 8, throwBox: NOT_POSSIBLE if one more than WEAR hang from the root");
        Recorded x = Houses.chain(3);
        x.box(2);
        Houses.hangBoxes(x, 0, 2);
        x.wear(2);
        check.due("throwBox(0): 3 hang from 0", x.throwBox(0), NOT_POSSIBLE);
        check.due("throwBox(1): 2 are left", x.throwBox(1), 2);
        check.due("throwBox(0)", x.throwBox(0), 3);
    }

    private static void boxMoreThanWearHangsFromTheLastKey() {
        check.part("Promise 8, throwBox: NOT_POSSIBLE if one more than WEAR hang from its key: the last of 20 keys");
        Recorded x = Houses.chain(20);
        Houses.hangBoxes(x, 19, 4);
        x.wear(2);
        check.due("throwingMakes(1, 3)", x.throwingMakes(1, 3), NOT_POSSIBLE);
        check.due("throwBox(3)", x.throwBox(3), NOT_POSSIBLE);
        x.wear(3);
        check.due("throwingMakes(1, 3)", x.throwingMakes(1, 3), 22);
        check.due("throwBox(3)", x.throwBox(3), 22);
        check.due("make of 19", x.ofKey(19, 2), 1);
        check.due("wear of 19", x.ofKey(19, 3), 3);
    }

    private static void boxWornAbovePlaysNoPart() {
        check.part("Promise 8, throwBox: keys above that can close no more wraps are made anew");
        Recorded x = new Recorded();
        x.wear(2);
        x.key(NONE);
        Houses.hangBoxes(x, 0, 2);
        check.due("worn", x.count(8), 1);
        check.due("throwBox(0)", x.throwBox(0), 1);
        check.due("worn", x.count(8), 0);
    }

    private static void boxHelpsNoCopy() {
        check.part("To throw a box away goes likewise: no copy helps any more");
        Recorded x = Houses.rootWithBoxes(2);
        x.copy(0, 0);
        x.copy(0, 1);
        x.copy(0, 2);
        check.due("throwBox(0)", x.throwBox(0), 1);
        check.due("canOpen(0, 7)", x.canOpen(0, 7), 0);
        check.due("canOpen(1, 0)", x.canOpen(1, 0), 1);
        check.due("places", x.wrap(0, 5), 7);
    }
}
