/** The boundary cases of promises 24 to 26, each with a test of its own. */
final class UndoSaveEdgesTest {
    private static final int BAD_VALUE = Check.BAD_VALUE, NOT_POSSIBLE = Check.NOT_POSSIBLE, NONE = Check.NONE;
    private static final int[] NO_SLOTS = {-1, 2, 3, 32, NONE, Integer.MIN_VALUE, Integer.MAX_VALUE};
    private static final Check check = new Check("UndoSaveEdgesTest");

    public static void main(String[] args) {
        undoOfNothing();
        undoOfOne();
        undoOfSix();
        undoOfMoreThanSix();
        undoAfterUndo();
        undoRoundAndRound();
        undoOfNoDifference();
        undoRecordsNothing();
        undoKeepsThePad();
        undoKeepsTheSlots();
        undoOfEachKindOfChange();
        undoOfFullHouses();
        ordersRecordNothing();
        errorsRecordNothing();
        whatIsNoChangeRecordsNothing();

        saveNoSlot();
        saveOfAnEmptyHouse();
        saveOfTwentyKeys();
        saveCountsAllKeys();
        saveOverwrites();
        saveKeepsTwoSlotsApart();
        saveIsNoChange();
        saveKeepsNoPadAndNoHistory();
        saveOfAFullHouse();
        savedStateIsNotTheHouse();

        restoreNoSlot();
        restoreOfNothing();
        restoreOfAnEmptyHouse();
        restoreKeepsTheSlot();
        restoreIsAChange();
        restoreKeepsPadAndHistory();
        restoreTakesCopiesBack();
        restoreOfTheSame();
        restoreOfAnotherHouse();
        check.end();
    }

    // ---- promise 24

    private static void undoOfNothing() {
        check.part("Promise 24, undo: NOT_POSSIBLE if there is none");
        Recorded x = new Recorded();
        check.due("undo()", x.undo(), NOT_POSSIBLE);
        x.wear(9);
        x.undo();
        check.due("undo()", x.undo(), NOT_POSSIBLE);
        check.due("WEAR", x.count(7), 8);
        check.due("changes", x.count(11), 0);
    }

    private static void undoOfOne() {
        check.part("Promise 24, undo: how many changes can be undone then: the only one");
        Recorded x = new Recorded();
        x.key(NONE);
        check.due("undo()", x.undo(), 0);
        check.due("keys", x.count(0), 0);
    }

    private static void undoOfSix() {
        check.part("Promise 24, undo: a history of at most 6 states: 6 changes go back to the new object");
        Recorded x = new Recorded();
        for (int k = 0; k < 6; k++) {
            x.key(NONE);
        }
        for (int left = 5; left >= 0; left--) {
            check.due("undo()", x.undo(), left);
            check.due("keys", x.count(0), left);
        }
        check.due("undo()", x.undo(), NOT_POSSIBLE);
    }

    private static void undoOfMoreThanSix() {
        check.part("Promise 24, undo: when one more is recorded, the oldest one is dropped: 7 changes");
        Recorded x = new Recorded();
        for (int k = 0; k < 7; k++) {
            x.key(NONE);
            check.due("changes", x.count(11), Math.min(k + 1, 6));
        }
        for (int left = 5; left >= 0; left--) {
            check.due("undo()", x.undo(), left);
            check.due("keys", x.count(0), left + 1);
        }
        check.due("undo()", x.undo(), NOT_POSSIBLE);
        check.due("keys", x.count(0), 1);
    }

    private static void undoAfterUndo() {
        check.part("Promise 24, undo: the latest change, also after an undo");
        Recorded x = new Recorded();
        x.wear(10);
        x.wear(11);
        x.undo();
        x.wear(12);
        x.wear(13);
        int[] dues = {12, 10, 8};
        for (int due : dues) {
            x.undo();
            check.due("WEAR", x.count(7), due);
        }
        check.due("undo()", x.undo(), NOT_POSSIBLE);
    }

    private static void undoRoundAndRound() {
        check.part("Promise 24, undo: each number of changes, then each number of undos, then changes again");
        for (int first = 0; first < 15; first++) {
            for (int back = 0; back <= Math.min(first, 6); back++) {
                Recorded x = new Recorded();
                for (int wear = 0; wear < first; wear++) {
                    x.wear(10 + wear);
                }
                for (int i = 0; i < back; i++) {
                    x.undo();
                }
                int kept = Math.min(first, 6) - back;
                int wear = first - back > 0 ? 9 + first - back : 8;
                check.due("WEAR", x.count(7), wear);
                x.wear(30);
                check.due("changes", x.count(11), Math.min(kept + 1, 6));
                check.due("undo()", x.undo(), Math.min(kept, 5));
                check.due("WEAR", x.count(7), wear);
            }
        }
    }

    private static void undoOfNoDifference() {
        check.part("Promise 24, undo: also if nothing is different then");
        Recorded x = Houses.rootWithBoxes(1);
        x.save(0);
        x.wear(30);
        x.restore(0);
        x.order("k9");
        check.due("changes", x.count(11), 6);
        String state = StateText.of(x);
        for (int left = 5; left >= 3; left--) {
            check.due("undo()", x.undo(), left);
            check.holds("the same", StateText.of(x).equals(state));
        }
        check.due("undo()", x.undo(), 2);
        check.due("boxes", x.count(2), 0);
    }

    private static void undoRecordsNothing() {
        check.part("Promise 24, undo: is no change itself");
        Recorded x = new Recorded();
        x.wear(10);
        x.wear(11);
        x.wear(12);
        check.due("undo()", x.undo(), 2);
        check.due("undo()", x.undo(), 1);
        check.due("undo()", x.undo(), 0);
        check.due("undo()", x.undo(), NOT_POSSIBLE);
    }

    private static void undoKeepsThePad() {
        check.part("Promise 24, undo: everything except the pad");
        Recorded x = new Recorded();
        x.write("k-;k0");
        x.wear(9);
        x.write(";b1");
        check.due("undo()", x.undo(), 0);
        check.due("length", x.count(10), 8);
        check.due("carryOut()", x.carryOut(), 3);
        x.undo();
        check.due("length", x.count(10), 0);
    }

    private static void undoKeepsTheSlots() {
        check.part("Promise 24, undo: everything except the slots");
        Recorded x = new Recorded();
        x.key(NONE);
        x.key(NONE);
        x.save(0);
        x.undo();
        check.due("keys", x.count(0), 1);
        check.due("restore(0)", x.restore(0), 2);
        check.due("undo()", x.undo(), 1);
        check.due("keys", x.count(0), 1);
        check.due("restore(0)", x.restore(0), 2);
        check.due("restore(1)", x.restore(1), NOT_POSSIBLE);
    }

    private static void undoOfEachKindOfChange() {
        check.part("Promise 24, undo: everything is as it was before it: each method that is a change");
        for (int kind = 0; kind < 9; kind++) {
            Recorded x = Houses.tree();
            x.copy(2, 1);
            x.save(1);
            x.wear(12);
            x.throwKey(3);
            String before = StateText.all(x);
            int answer = change(x, kind);
            check.holds("change " + kind + " is no error: " + answer, answer >= 0);
            check.holds("change " + kind + " shows", !StateText.all(x).equals(before));
            check.due("changes after change " + kind, x.count(11), 6);
            check.due("undo()", x.undo(), 5);
            // The oldest state was dropped by the change: what stands before it is compared.
            check.holds("change " + kind + " is undone", stateNow(StateText.all(x)).equals(stateNow(before)));
        }
    }

    private static String stateNow(String all) {
        return all.substring(0, all.indexOf("pad"));
    }

    private static int change(Recorded x, int kind) {
        switch (kind) {
            case 0: return x.wear(29);
            case 1: return x.key(2);
            case 2: return x.box(1);
            case 3: return x.copy(3, 2);
            case 4: return x.renew(1);
            case 5: return x.throwKey(2);
            case 6: return x.throwBox(1);
            case 7: return x.order("k-;b2;r0;c3@0;y0;x2");
            default: return x.restore(1);
        }
    }

    private static void undoOfFullHouses() {
        check.part("Promise 24, undo: everything is as it was before it: six houses of 120 wraps");
        Recorded x = Houses.withWraps(120);
        String[] before = new String[7];
        for (int change = 0; change < 7; change++) {
            before[change] = StateText.of(x);
            check.holds("change " + change, (change < 3 ? x.copy(119, change) : x.key(NONE)) >= 0);
        }
        for (int left = 5; left >= 0; left--) {
            check.due("undo()", x.undo(), left);
            check.holds("the house before change " + (left + 1), StateText.of(x).equals(before[left + 1]));
        }
        check.due("undo()", x.undo(), NOT_POSSIBLE);
    }

    private static void ordersRecordNothing() {
        check.part("Promise 24, undo: an order of a text records nothing by itself");
        Recorded x = new Recorded();
        x.key(NONE);
        check.due("carryOut()", x.order("k0;b0;c0@0;r0;y0;x1;k-;k-"), 8);
        check.due("changes", x.count(11), 2);
        check.due("undo()", x.undo(), 1);
        check.due("keys", x.count(0), 1);
        check.due("undo()", x.undo(), 0);
        check.due("keys", x.count(0), 0);
    }

    private static void errorsRecordNothing() {
        check.part("Promise 24, undo: each method that is a change, and returns no error: errors are not recorded");
        Recorded x = new Recorded();
        x.key(NONE);
        x.wear(9);
        check.holds("errors", x.wear(1) < 0 && x.key(5) < 0 && x.box(5) < 0 && x.copy(5, 0) < 0 && x.renew(5) < 0
                && x.throwKey(5) < 0 && x.throwBox(5) < 0 && x.carryOut() < 0 && x.restore(0) < 0 && x.restore(2) < 0);
        check.due("changes", x.count(11), 2);
        check.due("undo()", x.undo(), 1);
        check.due("WEAR", x.count(7), 8);
        check.due("undo()", x.undo(), 0);
        check.due("keys", x.count(0), 0);
    }

    private static void whatIsNoChangeRecordsNothing() {
        check.part("Promise 24, undo: each method that is a change: put, wipe, save and undo are none");
        Recorded x = new Recorded();
        x.put('k');
        x.wipe();
        x.save(0);
        x.save(1);
        x.put('k');
        x.fault();
        check.due("changes", x.count(11), 0);
        check.due("undo()", x.undo(), NOT_POSSIBLE);
        check.due("length", x.count(10), 1);
    }

    // ---- promise 25

    private static void saveNoSlot() {
        check.part("Promise 25, save: BAD_VALUE if there is no such slot");
        Recorded x = Houses.chain(2);
        for (int slot : NO_SLOTS) {
            check.due("save(" + slot + ")", x.save(slot), BAD_VALUE);
        }
        check.due("restore(0)", x.restore(0), NOT_POSSIBLE);
        check.due("restore(1)", x.restore(1), NOT_POSSIBLE);
        check.due("save(0)", x.save(0), 2);
        check.due("save(1)", x.save(1), 2);
    }

    private static void saveOfAnEmptyHouse() {
        check.part("Promise 25, save: how many keys there are: none");
        Recorded x = new Recorded();
        check.due("save(0)", x.save(0), 0);
        check.due("save(1)", x.save(1), 0);
    }

    private static void saveOfTwentyKeys() {
        check.part("Promise 25, save: how many keys there are: 20");
        Recorded x = Houses.chain(20);
        check.due("save(0)", x.save(0), 20);
        x.throwKey(1);
        check.due("restore(0)", x.restore(0), 20);
        check.due("live keys", x.count(1), 20);
    }

    private static void saveCountsAllKeys() {
        check.part("Promise 25, save: how many keys there are, as count(0) tells them");
        Recorded x = Houses.chain(3);
        x.throwKey(1);
        check.due("save(0)", x.save(0), 3);
        check.due("restore(0)", x.restore(0), 3);
        check.due("live keys", x.count(1), 1);
    }

    private static void saveOverwrites() {
        check.part("Promise 25, save: overwrites what was saved there");
        Recorded x = Houses.tree();
        x.save(0);
        x.throwKey(0);
        x.key(NONE);
        x.wear(5);
        String second = StateText.of(x);
        check.due("save(0)", x.save(0), 5);
        x.wear(6);
        check.due("restore(0)", x.restore(0), 5);
        check.holds("the second", StateText.of(x).equals(second));
        x.restore(0);
        check.holds("the second again", StateText.of(x).equals(second));
    }

    private static void saveKeepsTwoSlotsApart() {
        check.part("Promise 25, save: slot 0 or 1");
        Recorded x = new Recorded();
        x.save(0);
        x.key(NONE);
        x.save(1);
        x.key(NONE);
        check.due("restore(0)", x.restore(0), 0);
        check.due("restore(1)", x.restore(1), 1);
        check.due("save(0)", x.save(0), 1);
        x.key(0);
        check.due("save(1)", x.save(1), 2);
        check.due("restore(0)", x.restore(0), 1);
        check.due("restore(1)", x.restore(1), 2);
    }

    private static void saveIsNoChange() {
        check.part("Promise 25, save: is no change");
        Recorded x = Houses.tree();
        String before = StateText.of(x);
        check.due("changes", x.count(11), 6);
        x.save(0);
        x.save(0);
        check.due("changes", x.count(11), 6);
        check.holds("the house stays", StateText.of(x).equals(before));
        x.undo();
        check.due("boxes", x.count(2), 3);
    }

    private static void saveKeepsNoPadAndNoHistory() {
        check.part("Promise 25, save: everything except the pad, the history and the slots");
        Recorded x = new Recorded();
        x.wear(10);
        x.save(1);
        x.wear(11);
        x.write("k-");
        x.save(0);
        x.wipe();
        x.write("k-;k0");
        x.wear(12);
        check.due("restore(0)", x.restore(0), 0);
        check.due("length", x.count(10), 5);
        check.due("changes", x.count(11), 4);
        check.due("undo()", x.undo(), 3);
        check.due("WEAR", x.count(7), 12);
        x.save(1);
        x.restore(0);
        x.restore(1);
        check.due("WEAR: slot 1 was not taken back", x.count(7), 12);
    }

    private static void saveOfAFullHouse() {
        check.part("Promise 25, save: everything: 120 wraps, 20 keys and 20 boxes");
        Recorded x = Houses.withWraps(100);
        x.wear(30);
        Houses.hangBoxes(x, 1, 20);
        for (int k = 2; k < 20; k++) {
            x.key(NONE);
        }
        for (int w = 110; w < 120; w++) {
            x.copy(w, w % 3);
        }
        String before = StateText.of(x);
        check.due("save(1)", x.save(1), 20);
        x.throwKey(0);
        x.copy(100, 0);
        x.wear(2);
        check.holds("it differs", !StateText.of(x).equals(before));
        check.due("restore(1)", x.restore(1), 20);
        check.holds("all is back", StateText.of(x).equals(before));
    }

    private static void savedStateIsNotTheHouse() {
        check.part("Promise 25, save: what is changed later does not change what was saved");
        Recorded x = Houses.tree();
        String before = StateText.of(x);
        x.save(0);
        x.renew(1);
        x.copy(x.count(4) - 1, 0);
        x.throwBox(0);
        x.throwKey(3);
        x.box(0);
        x.key(0);
        x.wear(5);
        x.restore(0);
        check.holds("as it was saved", StateText.of(x).equals(before));
    }

    // ---- promise 26

    private static void restoreNoSlot() {
        check.part("Promise 26, restore: BAD_VALUE if there is no such slot");
        Recorded x = new Recorded();
        for (int slot : NO_SLOTS) {
            check.due("restore(" + slot + ")", x.restore(slot), BAD_VALUE);
        }
        x.save(0);
        x.save(1);
        for (int slot : NO_SLOTS) {
            check.due("restore(" + slot + ")", x.restore(slot), BAD_VALUE);
        }
        check.due("changes", x.count(11), 0);
    }

    private static void restoreOfNothing() {
        check.part("Promise 26, restore: NOT_POSSIBLE if nothing was saved in it");
        for (int slot = 0; slot < 2; slot++) {
            Recorded x = new Recorded();
            x.key(NONE);
            check.due("restore", x.restore(slot), NOT_POSSIBLE);
            x.save(1 - slot);
            check.due("restore: the other one was saved", x.restore(slot), NOT_POSSIBLE);
            check.due("keys", x.count(0), 1);
            check.due("changes", x.count(11), 1);
            x.save(slot);
            check.due("restore", x.restore(slot), 1);
        }
    }

    private static void restoreOfAnEmptyHouse() {
        check.part("Promise 26, restore: how many keys there are then: none, and that is no error");
        Recorded x = new Recorded();
        x.save(0);
        x.wear(12);
        Houses.hangChain(x, 3);
        x.box(2);
        check.due("restore(0)", x.restore(0), 0);
        for (int what = 0; what < 10; what++) {
            check.due("count(" + what + ")", x.count(what), what == 7 ? 8 : 0);
        }
        check.due("changes", x.count(11), 6);
        check.due("key(NONE): numbered from 0 again", x.key(NONE), 0);
        check.due("box(0)", x.box(0), 0);
        check.wrapIs(x, 0, NONE, 0, 0, 0, 1, 0);
        check.due("make", x.ofKey(0, 2), 0);
        check.due("wear", x.ofKey(0, 3), 1);
    }

    private static void restoreKeepsTheSlot() {
        check.part("Promise 26, restore: what was saved last in a slot, which keeps it");
        Recorded x = Houses.tree();
        x.copy(0, 0);
        String before = StateText.of(x);
        x.save(1);
        for (int time = 0; time < 3; time++) {
            x.throwKey(time);
            x.wear(3 + time);
            check.due("restore(1)", x.restore(1), 4);
            check.holds("time " + time, StateText.of(x).equals(before));
        }
    }

    private static void restoreIsAChange() {
        check.part("Promise 26, restore: this is a change");
        Recorded x = Houses.chain(2);
        x.save(0);
        x.box(1);
        String before = StateText.of(x);
        check.due("restore(0)", x.restore(0), 2);
        check.due("changes", x.count(11), 4);
        check.due("undo()", x.undo(), 3);
        check.holds("as before", StateText.of(x).equals(before));
    }

    private static void restoreKeepsPadAndHistory() {
        check.part("Promise 26, restore: the pad and the history are not taken back");
        Recorded x = new Recorded();
        x.save(0);
        x.wear(10);
        x.wear(11);
        x.write("b0");
        check.due("restore(0)", x.restore(0), 0);
        check.due("length", x.count(10), 2);
        int[] dues = {11, 10, 8};
        for (int i = 0; i < 3; i++) {
            check.due("undo()", x.undo(), 2 - i);
            check.due("WEAR", x.count(7), dues[i]);
        }
    }

    private static void restoreTakesCopiesBack() {
        check.part("Promise 26, restore: (the copies outside, too)");
        Recorded x = Houses.chain(2);
        x.copy(0, 0);
        x.save(0);
        x.copy(0, 1);
        x.copy(0, 2);
        check.due("copies", x.count(6), 3);
        x.restore(0);
        check.due("copies", x.count(6), 1);
        check.due("places", x.wrap(0, 5), 1);
        check.due("copy(0, 1)", x.copy(0, 1), 1);
    }

    private static void restoreOfTheSame() {
        check.part("Promise 26, restore: a change, also if nothing is different then");
        Recorded x = Houses.chain(2);
        x.save(0);
        check.due("restore(0)", x.restore(0), 2);
        check.due("restore(0)", x.restore(0), 2);
        check.due("changes", x.count(11), 4);
    }

    private static void restoreOfAnotherHouse() {
        check.part("Promises 24 to 26: everything, when houses with the same numbers and nothing else in common follow");
        Recorded x = new Recorded();
        x.save(0);
        x.order("k-;k0;k1;b2;b1;r1;c0@0;c4@1");
        String first = StateText.of(x);
        x.save(1);
        x.restore(0);
        x.order("k-;k-;k1;b1;b0;b2;r1;c0@2;r2");
        String second = StateText.of(x);
        check.holds("they differ", !first.equals(second));
        check.due("restore(1)", x.restore(1), 3);
        check.holds("the first", StateText.of(x).equals(first));
        check.due("undo()", x.undo(), 3);
        check.holds("the second", StateText.of(x).equals(second));
        check.due("undo()", x.undo(), 2);
        check.due("undo()", x.undo(), 1);
        check.holds("the first again", StateText.of(x).equals(first));
    }
}
