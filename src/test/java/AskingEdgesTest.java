/** The boundary cases of promises 9 to 19, each with a test of its own. */
final class AskingEdgesTest {
    private static final int NO_SUCH = Check.NO_SUCH, BAD_VALUE = Check.BAD_VALUE, TOO_MANY = Check.TOO_MANY,
            NOT_POSSIBLE = Check.NOT_POSSIBLE, NONE = Check.NONE;
    private static final int LEAST = Integer.MIN_VALUE, MOST = Integer.MAX_VALUE;
    private static final int[] ODD_NUMBERS = {-1, -5, NONE, -7, LEAST, MOST, 31, 32, 33, 64, 256, 1 << 16};
    private static final Check check = new Check("AskingEdgesTest");

    public static void main(String[] args) {
        ofKeyNoSuch();
        ofKeyNotLiveCounts();
        ofKeyWhat();
        ofKeyLiveOnesAlone();
        ofKeyTheLastOfTwenty();

        ofBoxNoSuch();
        ofBoxNotLiveCounts();
        ofBoxWhat();
        ofBoxTheLastOfTwenty();
        ofBoxOpen();

        wrapNoSuch();
        wrapWhat();
        wrapTheLastOf120();
        wrapTheLastOf120HoldsABox();
        wrapOfABox();
        wrapPlaces();

        countWhat();
        countThrownAway();
        countFullHouse();
        countCopies();
        countWornKeys();
        countPad();
        countChanges();

        canOpenNoSuch();
        canOpenPlaces();
        canOpenNotLive();

        canHaveNoSuch();
        canHaveMake();
        canHavePlaces();
        canHaveNotYet();
        canHaveTheLastOfTwenty();

        wayNoSuch();
        wayStep();
        wayFromARoot();
        wayAfterMakingAnew();
        wayOfTheLastWraps();

        leaksNoSuch();
        leaksNoRoot();
        leaksMake();
        leaksPlaces();
        leaksNothingOfTheHouse();
        leaksNotLive();
        leaksOneMakeAlone();
        leaksOneRootAlone();
        leaksByEveryWrapOfTheWay();

        lostByNoSuch();
        lostByNotLive();
        lostByNothing();
        lostByLiveOnesAlone();

        throwingMakesKind();
        throwingMakesNoSuch();
        throwingMakesNotLive();
        throwingMakesNothing();
        throwingMakesLacks();
        throwingMakesPast120();
        throwingMakesTheMost();

        mostWornWhat();
        mostWornNoLiveKey();
        mostWornOfSeveral();
        mostWornAtLeast0();
        mostWornTheLastOfTwenty();
        mostWornLiveOnesAlone();
        check.end();
    }

    // ---- promise 9

    private static void ofKeyNoSuch() {
        check.part("Promise 9, ofKey: NO_SUCH if there is no such key");
        Recorded x = Houses.chain(3);
        for (int what = -1; what < 8; what++) {
            check.due("ofKey(3, " + what + ")", x.ofKey(3, what), NO_SUCH);
        }
        for (int key : ODD_NUMBERS) {
            check.due("ofKey(" + key + ", 2)", x.ofKey(key, 2), NO_SUCH);
        }
        check.due("ofKey(2, 2), the last one", x.ofKey(2, 2), 0);
    }

    private static void ofKeyNotLiveCounts() {
        check.part("Promise 9, ofKey: also one that is not live counts");
        Recorded x = Houses.tree();
        x.renew(2);
        x.throwKey(1);
        int[] dues = {1, 0, 1, 2, 0, 0, 2};
        for (int what = 0; what < 7; what++) {
            check.due("ofKey(2, " + what + ")", x.ofKey(2, what), dues[what]);
        }
    }

    private static void ofKeyWhat() {
        check.part("Promise 9, ofKey: BAD_VALUE if what is out of range");
        Recorded x = Houses.chain(3);
        for (int what : new int[] {-1, 7, 8, 32, NONE, LEAST, MOST}) {
            check.due("ofKey(1, " + what + ")", x.ofKey(1, what), BAD_VALUE);
        }
        check.due("ofKey(1, 0)", x.ofKey(1, 0), 0);
        check.due("ofKey(1, 6)", x.ofKey(1, 6), 1);
    }

    private static void ofKeyLiveOnesAlone() {
        check.part("Promise 9, ofKey: live keys and boxes that hang from it, no others, none further below");
        Recorded x = Houses.tree();
        check.due("keys on 0", x.ofKey(0, 4), Check.set(1));
        check.due("keys on 1", x.ofKey(1, 4), Check.set(2, 3));
        check.due("boxes on 1", x.ofKey(1, 5), Check.set(2));
        check.due("boxes on 2", x.ofKey(2, 5), Check.set(0, 1));
        check.due("boxes on 3", x.ofKey(3, 5), 0);
        x.throwBox(0);
        check.due("boxes on 2", x.ofKey(2, 5), Check.set(1));
        x.throwKey(2);
        check.due("keys on 1", x.ofKey(1, 4), Check.set(3));
        check.due("boxes on 2", x.ofKey(2, 5), 0);
    }

    private static void ofKeyTheLastOfTwenty() {
        check.part("Promise 9, ofKey: the last of 20 keys");
        Recorded x = Houses.chain(20);
        check.due("parent", x.ofKey(19, 0), 18);
        check.due("above", x.ofKey(19, 6), 19);
        check.due("keys on 18", x.ofKey(18, 4), 1 << 19);
        check.due("ofKey(20, 0)", x.ofKey(20, 0), NO_SUCH);
    }

    // ---- promise 10

    private static void ofBoxNoSuch() {
        check.part("Promise 10, ofBox: NO_SUCH if there is no such box");
        Recorded x = Houses.rootWithBoxes(3);
        for (int what = -1; what < 5; what++) {
            check.due("ofBox(3, " + what + ")", x.ofBox(3, what), NO_SUCH);
        }
        for (int box : ODD_NUMBERS) {
            check.due("ofBox(" + box + ", 1)", x.ofBox(box, 1), NO_SUCH);
        }
        check.due("ofBox(2, 1), the last one", x.ofBox(2, 1), 1);
    }

    private static void ofBoxNotLiveCounts() {
        check.part("Promise 10, ofBox: one that is not live is no error");
        Recorded x = Houses.tree();
        x.throwBox(1);
        int[] dues = {2, 0, 0, 0};
        for (int what = 0; what < 4; what++) {
            check.due("ofBox(1, " + what + ")", x.ofBox(1, what), dues[what]);
        }
    }

    private static void ofBoxWhat() {
        check.part("Promise 10, ofBox: BAD_VALUE if what is out of range");
        Recorded x = Houses.tree();
        for (int what : new int[] {-1, 4, 5, 32, NONE, LEAST, MOST}) {
            check.due("ofBox(0, " + what + ")", x.ofBox(0, what), BAD_VALUE);
        }
        check.due("ofBox(0, 0)", x.ofBox(0, 0), 2);
        check.due("ofBox(0, 3)", x.ofBox(0, 3), 1);
    }

    private static void ofBoxTheLastOfTwenty() {
        check.part("Promise 10, ofBox: the last of 20 boxes");
        Recorded x = Houses.rootWithBoxes(20);
        int[] dues = {0, 1, 1, 1};
        for (int what = 0; what < 4; what++) {
            check.due("ofBox(19, " + what + ")", x.ofBox(19, what), dues[what]);
        }
        check.due("ofBox(20, 0)", x.ofBox(20, 0), NO_SUCH);
    }

    private static void ofBoxOpen() {
        check.part("Promise 10, ofBox: with no places, and with all three places");
        Recorded x = Houses.tree();
        for (int w = 0; w < 7; w++) {
            x.copy(w, w % 3);
        }
        for (int b = 0; b < 4; b++) {
            check.due("ofBox(" + b + ", 2)", x.ofBox(b, 2), 1);
            check.due("ofBox(" + b + ", 3)", x.ofBox(b, 3), 1);
        }
        x.throwKey(2);
        for (int b = 0; b < 4; b++) {
            check.due("ofBox(" + b + ", 2)", x.ofBox(b, 2), b < 2 ? 0 : 1);
            check.due("ofBox(" + b + ", 3)", x.ofBox(b, 3), b < 2 ? 0 : 1);
        }
    }

    // ---- promise 11

    private static void wrapNoSuch() {
        check.part("Promise 11, wrap: NO_SUCH if there is no such wrap");
        Recorded x = Houses.chain(3);
        for (int what = -1; what < 7; what++) {
            check.due("wrap(2, " + what + ")", x.wrap(2, what), NO_SUCH);
        }
        for (int wrap : ODD_NUMBERS) {
            check.due("wrap(" + wrap + ", 0)", x.wrap(wrap, 0), NO_SUCH);
        }
        check.due("wrap(1, 0), the last one", x.wrap(1, 0), 2);
    }

    private static void wrapWhat() {
        check.part("Promise 11, wrap: BAD_VALUE if what is out of range");
        Recorded x = Houses.chain(2);
        for (int what : new int[] {-1, 6, 7, 32, NONE, LEAST, MOST}) {
            check.due("wrap(0, " + what + ")", x.wrap(0, what), BAD_VALUE);
        }
        check.due("wrap(0, 0)", x.wrap(0, 0), 1);
        check.due("wrap(0, 5)", x.wrap(0, 5), 0);
    }

    private static void wrapTheLastOf120() {
        check.part("Promise 11, wrap: the last of 120 wraps");
        Recorded x = Houses.withWraps(120);
        check.wrapIs(x, 119, 1, 0, 0, 119, 1, 0);
        check.wrapIs(x, 118, 1, 0, 0, 118, 0, 0);
        check.due("wrap(120, 0)", x.wrap(120, 0), NO_SUCH);
    }

    private static void wrapTheLastOf120HoldsABox() {
        check.part("Promise 11, wrap: the last of 120 wraps holds box 2 and is closed by make 1 of key 1");
        Recorded x = Houses.withWraps(116);
        x.renew(1);
        Houses.hangBoxes(x, 1, 3);
        x.copy(119, 1);
        check.due("wraps", x.count(4), 120);
        check.wrapIs(x, 118, NONE, 1, 1, 1, 1, 0);
        check.wrapIs(x, 119, NONE, 2, 1, 1, 1, 2);
        check.due("canOpen(2, 0)", x.canOpen(2, 0), 1);
        check.due("to be opened", x.count(9), Check.set(0, 1, 2));
        check.due("way(2, 0)", x.way(2, 0), 116);
        check.due("way(2, 1)", x.way(2, 1), 119);
        check.due("in the house", x.count(5), 4);
        check.due("copies", x.count(6), 1);
        x.copy(116, 0);
        check.due("leaks(0, 115, 3)", x.leaks(0, 115, 3), Check.set(2));
        check.due("throwKey(0)", x.throwKey(0), 0);
        check.due("in the house", x.count(5), 0);
    }

    private static void wrapOfABox() {
        check.part("Promise 11, wrap: 0 the key that it holds (NONE: a box), 1 the make of that, or the box");
        Recorded x = Houses.chain(2);
        x.renew(1);
        x.box(1);
        x.box(1);
        check.wrapIs(x, 1, 1, 1, 0, 0, 1, 0);
        check.wrapIs(x, 2, NONE, 0, 1, 1, 1, 0);
        check.wrapIs(x, 3, NONE, 1, 1, 1, 1, 0);
    }

    private static void wrapPlaces() {
        check.part("Promise 11, wrap: the places in which a copy of it stands, as a set: none, each one, all");
        Recorded x = Houses.rootWithBoxes(8);
        for (int w = 0; w < 8; w++) {
            for (int place = 0; place < 3; place++) {
                if ((w >> place & 1) == 1) {
                    x.copy(w, place);
                }
            }
        }
        x.renew(0);
        for (int w = 0; w < 8; w++) {
            check.due("places of " + w, x.wrap(w, 5), w);
            check.due("in the house " + w, x.wrap(w, 4), 0);
            check.due("in the house " + (w + 8), x.wrap(w + 8, 4), 1);
        }
    }

    // ---- promise 12

    private static void countWhat() {
        check.part("Promise 12, count: BAD_VALUE if what is out of range");
        Recorded x = Houses.tree();
        for (int what : new int[] {-1, 12, 13, 32, NONE, LEAST, MOST}) {
            check.due("count(" + what + ")", x.count(what), BAD_VALUE);
        }
        check.due("count(0)", x.count(0), 4);
        check.due("count(11)", x.count(11), 6);
    }

    private static void countThrownAway() {
        check.part("Promise 12, count: all keys and live ones, all boxes and live ones, all wraps and those in the house");
        Recorded x = Houses.tree();
        x.throwKey(2);
        int[] dues = {4, 3, 4, 2, 11, 4, 0, 8, 0, Check.set(2, 3)};
        for (int what = 0; what < 10; what++) {
            check.due("count(" + what + ")", x.count(what), dues[what]);
        }
        x.throwKey(0);
        int[] duesThen = {4, 0, 4, 0, 11, 0, 0, 8, 0, 0};
        for (int what = 0; what < 10; what++) {
            check.due("count(" + what + ")", x.count(what), duesThen[what]);
        }
    }

    private static void countFullHouse() {
        check.part("Promise 12, count: 20 keys, 20 boxes, 120 wraps");
        Recorded x = new Recorded();
        x.wear(30);
        x.key(NONE);
        Houses.hangKeys(x, 0, 19);
        Houses.hangBoxes(x, 1, 20);
        check.due("renew(0)", x.renew(0) + x.renew(0), 38);
        check.due("renew(1)", x.renew(1) + x.renew(1), 42);
        check.due("renew(2)", x.renew(2), 1);
        int[] dues = {20, 20, 20, 20, 120, 39, 0, 30, 0, (1 << 20) - 1};
        for (int what = 0; what < 10; what++) {
            check.due("count(" + what + ")", x.count(what), dues[what]);
        }
    }

    private static void countCopies() {
        check.part("Promise 12, count: copies outside: each of them, also of burnt wraps");
        Recorded x = Houses.withWraps(20);
        Houses.hangBoxes(x, 1, 7);
        for (int w = 19; w < 27; w++) {
            x.copy(w, 0);
            x.copy(w, 1);
            x.copy(w, 2);
        }
        check.due("copies", x.count(6), 24);
        x.throwKey(0);
        check.due("copies", x.count(6), 24);
        check.due("in the house", x.count(5), 0);
    }

    private static void countWornKeys() {
        check.part("Promise 12, count: live keys that cannot close one more wrap, as a set");
        Recorded x = new Recorded();
        x.wear(2);
        x.key(NONE);
        x.key(NONE);
        x.key(NONE);
        Houses.hangBoxes(x, 0, 2);
        Houses.hangBoxes(x, 1, 1);
        Houses.hangBoxes(x, 2, 2);
        check.due("0 and 2", x.count(8), Check.set(0, 2));
        x.throwKey(0);
        check.due("2 alone is live", x.count(8), Check.set(2));
        x.wear(3);
        check.due("none", x.count(8), 0);
    }

    private static void countPad() {
        check.part("Promise 12, count: the length of the pad: 0 to 60");
        Recorded x = new Recorded();
        check.due("empty", x.count(10), 0);
        for (int length = 1; length <= 60; length++) {
            check.due("put", x.put('k'), length);
            check.due("length", x.count(10), length);
        }
        x.put('k');
        check.due("full", x.count(10), 60);
        x.wipe();
        check.due("empty", x.count(10), 0);
    }

    private static void countChanges() {
        check.part("Promise 12, count: how many changes can be undone: 0 to 6");
        Recorded x = new Recorded();
        for (int changes = 0; changes < 9; changes++) {
            check.due("changes", x.count(11), Math.min(changes, 6));
            x.wear(9);
        }
        for (int changes = 6; changes >= 0; changes--) {
            check.due("changes", x.count(11), changes);
            x.undo();
        }
        check.due("changes", x.count(11), 0);
    }

    // ---- promise 13

    private static void canOpenNoSuch() {
        check.part("Promise 13, canOpen: NO_SUCH if there is no such box");
        Recorded x = Houses.rootWithBoxes(2);
        check.due("canOpen(2, 0)", x.canOpen(2, 0), NO_SUCH);
        for (int box : ODD_NUMBERS) {
            check.due("canOpen(" + box + ", 7)", x.canOpen(box, 7), NO_SUCH);
        }
        check.due("canOpen(2, -1): named first", x.canOpen(2, -1), NO_SUCH);
        check.due("canOpen(2, 8): named first", x.canOpen(2, 8), NO_SUCH);
        check.due("canOpen(1, 0), the last one", x.canOpen(1, 0), 1);
    }

    private static void canOpenPlaces() {
        check.part("Promise 13, canOpen: BAD_VALUE if places is out of range: 0 to 7");
        Recorded x = Houses.rootWithBoxes(1);
        for (int places : new int[] {-1, 8, 9, 15, 16, NONE, LEAST, MOST}) {
            check.due("canOpen(0, " + places + ")", x.canOpen(0, places), BAD_VALUE);
        }
        check.due("canOpen(0, 0)", x.canOpen(0, 0), 1);
        check.due("canOpen(0, 7)", x.canOpen(0, 7), 1);
        x.throwBox(0);
        check.due("canOpen(0, 8)", x.canOpen(0, 8), BAD_VALUE);
    }

    private static void canOpenNotLive() {
        check.part("Promise 13, canOpen: a box that is not live is no error");
        Recorded x = Houses.rootWithBoxes(1);
        x.throwBox(0);
        check.due("canOpen(0, 0)", x.canOpen(0, 0), 0);
        check.due("canOpen(0, 7)", x.canOpen(0, 7), 0);
    }

    // ---- promise 14

    private static void canHaveNoSuch() {
        check.part("Promise 14, canHave: NO_SUCH if there is no such key");
        Recorded x = Houses.chain(3);
        check.due("canHave(3, 0, 0)", x.canHave(3, 0, 0), NO_SUCH);
        for (int key : ODD_NUMBERS) {
            check.due("canHave(" + key + ", 0, 7)", x.canHave(key, 0, 7), NO_SUCH);
        }
        check.due("canHave(3, -1, 0): named first", x.canHave(3, -1, 0), NO_SUCH);
        check.due("canHave(3, 0, 8): named first", x.canHave(3, 0, 8), NO_SUCH);
        x.throwKey(2);
        check.due("canHave(2, 0, 7): not live", x.canHave(2, 0, 7), 0);
    }

    private static void canHaveMake() {
        check.part("Promise 14, canHave: BAD_VALUE if make is out of range: 0 or more");
        Recorded x = Houses.chain(2);
        for (int make : new int[] {-1, -2, NONE, LEAST}) {
            for (int key = 0; key < 2; key++) {
                check.due("canHave(" + key + ", " + make + ", 0)", x.canHave(key, make, 0), BAD_VALUE);
            }
        }
        check.due("canHave(0, 0, 0)", x.canHave(0, 0, 0), 1);
    }

    private static void canHavePlaces() {
        check.part("Promise 14, canHave: BAD_VALUE if places is out of range: 0 to 7");
        Recorded x = Houses.chain(2);
        for (int places : new int[] {-1, 8, 9, 15, 16, NONE, LEAST, MOST}) {
            check.due("canHave(0, 0, " + places + ")", x.canHave(0, 0, places), BAD_VALUE);
            check.due("canHave(1, 9, " + places + ")", x.canHave(1, 9, places), BAD_VALUE);
        }
        check.due("canHave(1, 0, 0)", x.canHave(1, 0, 0), 1);
        check.due("canHave(1, 0, 7)", x.canHave(1, 0, 7), 1);
    }

    private static void canHaveNotYet() {
        check.part("Promise 14, canHave: a make that there was not yet is no error: 0");
        Recorded x = Houses.chain(2);
        x.copy(0, 0);
        for (int make : new int[] {1, 2, 119, 120, 1000, MOST}) {
            check.due("canHave(0, " + make + ", 7)", x.canHave(0, make, 7), 0);
            check.due("canHave(1, " + make + ", 7)", x.canHave(1, make, 7), 0);
        }
        x.renew(1);
        check.due("canHave(1, 1, 0)", x.canHave(1, 1, 0), 1);
        check.due("canHave(1, 2, 7)", x.canHave(1, 2, 7), 0);
    }

    private static void canHaveTheLastOfTwenty() {
        check.part("Promises 14 and 16, canHave and leaks: the last of 20 keys is a root");
        Recorded x = new Recorded();
        for (int root = 0; root < 20; root++) {
            x.key(NONE);
        }
        check.due("canHave(19, 0, 0)", x.canHave(19, 0, 0), 1);
        x.renew(19);
        check.due("canHave(19, 0, 7)", x.canHave(19, 0, 7), 0);
        check.due("canHave(19, 1, 0)", x.canHave(19, 1, 0), 1);
        x.box(19);
        check.due("canOpen(0, 0)", x.canOpen(0, 0), 1);
        x.copy(0, 2);
        check.due("leaks(19, 1, 4)", x.leaks(19, 1, 4), 1);
        check.due("leaks(19, 0, 4)", x.leaks(19, 0, 4), 0);
        check.due("leaks(20, 0, 4)", x.leaks(20, 0, 4), NO_SUCH);
        x.throwKey(19);
        check.due("canHave(19, 1, 7)", x.canHave(19, 1, 7), 0);
        check.due("leaks(19, 1, 4): not live", x.leaks(19, 1, 4), 1);
    }

    // ---- promise 15

    private static void wayNoSuch() {
        check.part("Promise 15, way: NO_SUCH if there is no such live box");
        Recorded x = Houses.rootWithBoxes(3);
        x.throwBox(1);
        check.due("way(3, 0)", x.way(3, 0), NO_SUCH);
        check.due("way(3, -1)", x.way(3, -1), NO_SUCH);
        check.due("way(1, 0): not live", x.way(1, 0), NO_SUCH);
        check.due("way(1, -1): not live", x.way(1, -1), NO_SUCH);
        check.due("way(1, 5): not live", x.way(1, 5), NO_SUCH);
        for (int box : ODD_NUMBERS) {
            check.due("way(" + box + ", 0)", x.way(box, 0), NO_SUCH);
        }
        check.due("way(2, 0), the last one", x.way(2, 0), 4);
    }

    private static void wayStep() {
        check.part("Promise 15, way: NONE if there are not so many, BAD_VALUE if step is below 0");
        Recorded x = Houses.tree();
        for (int step : new int[] {-1, -2, NONE, LEAST}) {
            check.due("way(0, " + step + ")", x.way(0, step), BAD_VALUE);
        }
        check.due("way(0, 0)", x.way(0, 0), 0);
        check.due("way(0, 1)", x.way(0, 1), 1);
        check.due("way(0, 2), the last one", x.way(0, 2), 2);
        for (int step : new int[] {3, 4, 19, 20, 32, MOST}) {
            check.due("way(0, " + step + ")", x.way(0, step), NONE);
        }
    }

    private static void wayFromARoot() {
        check.part("Promise 15, way: the keys above it (not the root): a box under a root");
        Recorded x = Houses.rootWithBoxes(2);
        check.due("way(1, 0)", x.way(1, 0), 1);
        check.due("way(1, 1)", x.way(1, 1), NONE);
    }

    private static void wayAfterMakingAnew() {
        check.part("Promise 15, way: the wraps in the house, from the root on down, also if a later one is further up");
        Recorded x = Houses.tree();
        x.copy(0, 0);
        x.copy(1, 1);
        x.renew(1);
        check.due("way(0, 0)", x.way(0, 0), 7);
        check.due("way(0, 1)", x.way(0, 1), 8);
        check.due("way(0, 2)", x.way(0, 2), 2);
        check.due("way(0, 3)", x.way(0, 3), NONE);
        check.due("way(3, 0)", x.way(3, 0), 6);
    }

    private static void wayOfTheLastWraps() {
        check.part("Promise 15, way: the last of 120 wraps");
        Recorded x = Houses.withWraps(117);
        x.box(1);
        x.renew(1);
        check.due("wraps", x.count(4), 120);
        check.due("way(0, 0)", x.way(0, 0), 118);
        check.due("way(0, 1)", x.way(0, 1), 119);
        check.due("way(0, 2)", x.way(0, 2), NONE);
    }

    // ---- promise 16

    private static void leaksNoSuch() {
        check.part("Promise 16, leaks: NO_SUCH if there is no such root");
        Recorded x = Houses.rootWithBoxes(1);
        x.key(NONE);
        check.due("leaks(2, 0, 0)", x.leaks(2, 0, 0), NO_SUCH);
        for (int root : ODD_NUMBERS) {
            check.due("leaks(" + root + ", 0, 0)", x.leaks(root, 0, 0), NO_SUCH);
        }
        check.due("leaks(2, -1, 0): named first", x.leaks(2, -1, 0), NO_SUCH);
        check.due("leaks(2, 0, 8): named first", x.leaks(2, 0, 8), NO_SUCH);
        check.due("leaks(1, 0, 0), the last one", x.leaks(1, 0, 0), 0);
    }

    private static void leaksNoRoot() {
        check.part("Promise 16, leaks: NO_SUCH if there is no such root: a key that is no root");
        Recorded x = Houses.tree();
        x.copy(2, 0);
        for (int key = 1; key < 4; key++) {
            check.due("leaks(" + key + ", 0, 7)", x.leaks(key, 0, 7), NO_SUCH);
            check.due("leaks(" + key + ", -1, 8)", x.leaks(key, -1, 8), NO_SUCH);
        }
    }

    private static void leaksMake() {
        check.part("Promise 16, leaks: BAD_VALUE if make is out of range: 0 or more");
        Recorded x = Houses.rootWithBoxes(1);
        x.copy(0, 0);
        for (int make : new int[] {-1, -2, NONE, LEAST}) {
            check.due("leaks(0, " + make + ", 7)", x.leaks(0, make, 7), BAD_VALUE);
        }
        check.due("leaks(0, 0, 7)", x.leaks(0, 0, 7), 1);
        for (int make : new int[] {1, 2, 120, MOST}) {
            check.due("leaks(0, " + make + ", 7)", x.leaks(0, make, 7), 0);
        }
    }

    private static void leaksPlaces() {
        check.part("Promise 16, leaks: BAD_VALUE if places is out of range: 0 to 7");
        Recorded x = Houses.rootWithBoxes(3);
        for (int w = 0; w < 3; w++) {
            x.copy(w, w);
        }
        for (int places : new int[] {-1, 8, 9, 15, 16, NONE, LEAST, MOST}) {
            check.due("leaks(0, 0, " + places + ")", x.leaks(0, 0, places), BAD_VALUE);
        }
        for (int places = 0; places < 8; places++) {
            check.due("leaks(0, 0, " + places + ")", x.leaks(0, 0, places), places);
        }
    }

    private static void leaksNothingOfTheHouse() {
        check.part("Promise 16, leaks: but nothing of the house and the safe");
        Recorded x = Houses.tree();
        check.due("nothing stands outside", x.leaks(0, 0, 7), 0);
        x.copy(2, 0);
        x.copy(6, 1);
        check.due("the wraps of the keys are in the house alone", x.leaks(0, 0, 7), Check.set(3));
        x.key(NONE);
        x.box(4);
        x.copy(7, 2);
        check.due("the other root is in the safe alone", x.leaks(0, 0, 7), Check.set(3));
        check.due("leaks(4, 0, 7)", x.leaks(4, 0, 7), Check.set(4));
    }

    private static void leaksNotLive() {
        check.part("Promise 16, leaks: the boxes, live or not, by a root, live or not");
        Recorded x = Houses.rootWithBoxes(2);
        x.copy(0, 0);
        x.copy(1, 0);
        x.throwBox(0);
        check.due("box 0 is not live", x.leaks(0, 0, 1), Check.set(0, 1));
        x.throwKey(0);
        check.due("nor are the root and box 1", x.leaks(0, 0, 1), Check.set(0, 1));
        check.due("leaks(0, 1, 7)", x.leaks(0, 1, 7), 0);
    }

    private static void leaksOneMakeAlone() {
        check.part("Promise 16, leaks: somebody who has one make of a root");
        Recorded x = Houses.rootWithBoxes(3);
        x.copy(0, 0);
        x.renew(0);
        x.copy(4, 0);
        x.renew(0);
        x.copy(8, 0);
        for (int make = 0; make < 3; make++) {
            check.due("leaks(0, " + make + ", 1)", x.leaks(0, make, 1), 1 << make);
            check.due("leaks(0, " + make + ", 6)", x.leaks(0, make, 6), 0);
        }
    }

    private static void leaksOneRootAlone() {
        check.part("Promise 16, leaks: somebody who has one root: the same make of another one");
        Recorded x = new Recorded();
        for (int root = 0; root < 3; root++) {
            x.key(NONE);
            x.box(root);
            x.copy(root, root);
        }
        for (int root = 0; root < 3; root++) {
            for (int places = 0; places < 8; places++) {
                check.due("leaks(" + root + ", 0, " + places + ")", x.leaks(root, 0, places), places & 1 << root);
            }
        }
    }

    private static void leaksByEveryWrapOfTheWay() {
        check.part("Promise 16, leaks: copies of all wraps of the way, of the makes that close one another");
        Recorded x = Houses.chain(3);
        x.box(2);
        x.copy(0, 0);
        x.copy(2, 2);
        x.renew(2);
        x.copy(3, 1);
        check.due("the copied wrap of the box is closed by make 0 of 2", x.leaks(0, 0, 7), 0);
        x.copy(4, 2);
        check.due("all of make 1", x.leaks(0, 0, 7), 1);
        for (int places = 0; places < 7; places++) {
            check.due("leaks(0, 0, " + places + ")", x.leaks(0, 0, places), 0);
        }
    }

    // ---- promise 17

    private static void lostByNoSuch() {
        check.part("Promise 17, lostBy: NO_SUCH if there is no such live key: one that was never made");
        Recorded x = Houses.tree();
        check.due("lostBy(4)", x.lostBy(4), NO_SUCH);
        for (int key : ODD_NUMBERS) {
            check.due("lostBy(" + key + ")", x.lostBy(key), NO_SUCH);
        }
    }

    private static void lostByNotLive() {
        check.part("Promise 17, lostBy: NO_SUCH if there is no such live key: one that was thrown away");
        Recorded x = Houses.tree();
        x.throwKey(1);
        for (int key = 1; key < 4; key++) {
            check.due("lostBy(" + key + ")", x.lostBy(key), NO_SUCH);
        }
        check.due("lostBy(0)", x.lostBy(0), Check.set(3));
    }

    private static void lostByNothing() {
        check.part("Promise 17, lostBy: no box hangs below: the empty set");
        Recorded x = Houses.tree();
        check.due("lostBy(3)", x.lostBy(3), 0);
    }

    private static void lostByLiveOnesAlone() {
        check.part("Promise 17, lostBy: the live boxes that would be lost, also further below");
        Recorded x = Houses.tree();
        check.due("lostBy(0)", x.lostBy(0), Check.set(0, 1, 2, 3));
        check.due("lostBy(1)", x.lostBy(1), Check.set(0, 1, 2));
        check.due("lostBy(2)", x.lostBy(2), Check.set(0, 1));
        x.throwBox(1);
        check.due("lostBy(1)", x.lostBy(1), Check.set(0, 2));
        x.wear(2);
        check.due("lostBy(2): whether it can be thrown away plays no part", x.lostBy(2), Check.set(0));
    }

    // ---- promise 18

    private static void throwingMakesKind() {
        check.part("Promise 18, throwingMakes: BAD_VALUE if kind is neither");
        Recorded x = Houses.tree();
        for (int kind : new int[] {-1, 2, 3, NONE, LEAST, MOST}) {
            check.due("throwingMakes(" + kind + ", 0)", x.throwingMakes(kind, 0), BAD_VALUE);
            check.due("throwingMakes(" + kind + ", 9): named first", x.throwingMakes(kind, 9), BAD_VALUE);
        }
        check.due("throwingMakes(0, 1)", x.throwingMakes(0, 1), 1);
        check.due("throwingMakes(1, 1)", x.throwingMakes(1, 1), 6);
    }

    private static void throwingMakesNoSuch() {
        check.part("Promise 18, throwingMakes: NO_SUCH if there is no such live one: one that was never made");
        Recorded x = Houses.chain(2);
        x.box(0);
        x.box(0);
        x.box(0);
        check.due("throwingMakes(0, 2): a box, but no key", x.throwingMakes(0, 2), NO_SUCH);
        check.due("throwingMakes(1, 2)", x.throwingMakes(1, 2), 3);
        check.due("throwingMakes(1, 3)", x.throwingMakes(1, 3), NO_SUCH);
        for (int number : ODD_NUMBERS) {
            check.due("throwingMakes(0, " + number + ")", x.throwingMakes(0, number), NO_SUCH);
            check.due("throwingMakes(1, " + number + ")", x.throwingMakes(1, number), NO_SUCH);
        }
        Recorded y = Houses.chain(2);
        y.box(0);
        check.due("throwingMakes(1, 1): a key, but no box", y.throwingMakes(1, 1), NO_SUCH);
    }

    private static void throwingMakesNotLive() {
        check.part("Promise 18, throwingMakes: NO_SUCH if there is no such live one: one that was thrown away");
        Recorded x = Houses.tree();
        x.throwKey(2);
        check.due("throwingMakes(0, 2)", x.throwingMakes(0, 2), NO_SUCH);
        check.due("throwingMakes(1, 0)", x.throwingMakes(1, 0), NO_SUCH);
        check.due("throwingMakes(1, 1)", x.throwingMakes(1, 1), NO_SUCH);
        check.due("throwingMakes(1, 2)", x.throwingMakes(1, 2), 3);
    }

    private static void throwingMakesNothing() {
        check.part("Promise 18, throwingMakes: a root: 0");
        Recorded x = Houses.tree();
        x.wear(2);
        check.due("throwingMakes(0, 0)", x.throwingMakes(0, 0), 0);
        Recorded y = Houses.chain(3);
        check.due("throwingMakes(0, 1)", y.throwingMakes(0, 1), 0);
        check.due("throwingMakes(0, 2)", y.throwingMakes(0, 2), 1);
    }

    private static void throwingMakesLacks() {
        check.part("Promise 18, throwingMakes: NOT_POSSIBLE if it would lack what it needs");
        Recorded x = Houses.chain(3);
        Houses.hangBoxes(x, 1, 4);
        x.wear(4);
        check.due("throwingMakes(0, 2): 4 are left", x.throwingMakes(0, 2), 5);
        check.due("throwingMakes(1, 0): 4 are left", x.throwingMakes(1, 0), 5);
        x.wear(3);
        check.due("throwingMakes(0, 2): 4 are left", x.throwingMakes(0, 2), NOT_POSSIBLE);
        check.due("throwingMakes(1, 0): 4 are left", x.throwingMakes(1, 0), NOT_POSSIBLE);
        check.due("throwingMakes(0, 1): 5 hang from it", x.throwingMakes(0, 1), 0);
    }

    private static void throwingMakesPast120() {
        check.part("Promise 18, throwingMakes: how many it would make, also if there would be more than 120 wraps");
        Recorded x = new Recorded();
        Houses.fillWithWraps(x, 116);
        Houses.hangBoxes(x, 0, 4);
        check.due("wraps", x.count(4), 120);
        check.due("throwingMakes(0, 1)", x.throwingMakes(0, 1), 4);
        check.due("throwKey(1)", x.throwKey(1), TOO_MANY);
        check.due("throwingMakes(1, 0)", x.throwingMakes(1, 0), 4);
        check.due("throwBox(0)", x.throwBox(0), TOO_MANY);
        x.wear(3);
        check.due("throwingMakes(0, 1)", x.throwingMakes(0, 1), NOT_POSSIBLE);
        check.due("throwKey(1): TOO_MANY is named first", x.throwKey(1), TOO_MANY);
    }

    private static void throwingMakesTheMost() {
        check.part("Promise 18, throwingMakes: 38 of the 39 things that can be wrapped in a house");
        Recorded x = new Recorded();
        x.wear(30);
        x.key(NONE);
        Houses.hangKeys(x, 0, 19);
        Houses.hangBoxes(x, 19, 20);
        check.due("throwingMakes(1, 19)", x.throwingMakes(1, 19), 38);
        check.due("throwingMakes(1, 0)", x.throwingMakes(1, 0), 38);
        check.due("throwingMakes(0, 19)", x.throwingMakes(0, 19), 18);
        check.due("throwBox(0)", x.throwBox(0), 38);
        check.due("throwBox(1)", x.throwBox(1), 37);
        check.due("wraps", x.count(4), 114);
        check.due("throwBox(2)", x.throwBox(2), TOO_MANY);
        check.due("throwingMakes(1, 2)", x.throwingMakes(1, 2), 36);
    }

    // ---- promise 19

    private static void mostWornWhat() {
        check.part("Promise 19, mostWorn: BAD_VALUE if what is neither 0 nor 1");
        Recorded x = new Recorded();
        for (int what : new int[] {-1, 2, 3, NONE, LEAST, MOST}) {
            check.due("mostWorn(" + what + ") without keys", x.mostWorn(what), BAD_VALUE);
        }
        x.key(NONE);
        for (int what : new int[] {-1, 2, 3, NONE, LEAST, MOST}) {
            check.due("mostWorn(" + what + ")", x.mostWorn(what), BAD_VALUE);
        }
        check.due("mostWorn(0)", x.mostWorn(0), 0);
        check.due("mostWorn(1)", x.mostWorn(1), 8);
    }

    private static void mostWornNoLiveKey() {
        check.part("Promise 19, mostWorn: NONE if there is no live key");
        Recorded x = new Recorded();
        check.due("mostWorn(0)", x.mostWorn(0), NONE);
        check.due("mostWorn(1)", x.mostWorn(1), NONE);
        x.key(NONE);
        x.box(0);
        x.throwKey(0);
        check.due("mostWorn(0)", x.mostWorn(0), NONE);
        check.due("mostWorn(1)", x.mostWorn(1), NONE);
    }

    private static void mostWornOfSeveral() {
        check.part("Promise 19, mostWorn: of several the lowest one");
        Recorded x = new Recorded();
        for (int root = 0; root < 4; root++) {
            x.key(NONE);
        }
        check.due("all alike", x.mostWorn(0), 0);
        x.box(3);
        check.due("3 has less", x.mostWorn(0), 3);
        x.box(2);
        check.due("2 has as much", x.mostWorn(0), 2);
        x.box(3);
        check.due("3 has less", x.mostWorn(0), 3);
        check.due("left", x.mostWorn(1), 6);
        x.renew(3);
        check.due("3 closes two wraps again", x.mostWorn(1), 6);
        x.throwBox(0);
        check.due("2 and 3 are alike", x.mostWorn(0), 2);
        check.due("left", x.mostWorn(1), 7);
    }

    private static void mostWornAtLeast0() {
        check.part("Promise 19, mostWorn: WEAR less its wear, at least 0: past WEAR all are alike");
        Recorded x = Houses.chain(2);
        x.key(NONE);
        Houses.hangBoxes(x, 2, 8);
        Houses.hangBoxes(x, 1, 5);
        check.due("8 of 8", x.mostWorn(0), 2);
        check.due("left", x.mostWorn(1), 0);
        x.wear(5);
        check.due("5 of 5, and 8 of 5", x.mostWorn(0), 1);
        check.due("left", x.mostWorn(1), 0);
        x.wear(6);
        check.due("5 of 6, and 8 of 6", x.mostWorn(0), 2);
        x.wear(9);
        check.due("8 of 9", x.mostWorn(0), 2);
        check.due("left", x.mostWorn(1), 1);
    }

    private static void mostWornTheLastOfTwenty() {
        check.part("Promise 19, mostWorn: the last of 20 keys, and WEAR 30");
        Recorded x = new Recorded();
        for (int root = 0; root < 20; root++) {
            x.key(NONE);
        }
        x.wear(30);
        check.due("left", x.mostWorn(1), 30);
        x.box(19);
        check.due("mostWorn(0)", x.mostWorn(0), 19);
        check.due("mostWorn(1)", x.mostWorn(1), 29);
    }

    private static void mostWornLiveOnesAlone() {
        check.part("Promise 19, mostWorn: the live key: one that was thrown away plays no part");
        Recorded x = Houses.rootWithBoxes(5);
        x.key(NONE);
        x.key(1);
        x.throwKey(0);
        check.due("mostWorn(0)", x.mostWorn(0), 1);
        check.due("mostWorn(1)", x.mostWorn(1), 29);
    }
}
