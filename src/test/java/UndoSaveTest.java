/** Promises 24 to 26: undo, save, restore. */
final class UndoSaveTest {
    private static final int BAD_VALUE = Check.BAD_VALUE, NOT_POSSIBLE = Check.NOT_POSSIBLE, NONE = Check.NONE;
    private static final Check check = new Check("UndoSaveTest");

    public static void main(String[] args) {
        undoOfEachChange();
        undoAtMostSix();
        errorsRecordNothing();
        whatUndoLeaves();
        save();
        saveKeepsEverything();
        twoHouses();
        restore();
        check.end();
    }

    private static Recorded house() {
        Recorded x = new Recorded();
        x.key(NONE);
        x.key(0);
        x.box(1);
        x.box(0);
        x.copy(0, 0);
        return x;
    }

    private static void undoOfEachChange() {
        check.part("promise 24");
        Recorded x = house();
        String before = StateText.of(x);
        for (int change = 0; change < 9; change++) {
            x.save(1);
            int answer = change(x, change);
            check.holds("change " + change + " answers no error: " + answer, answer >= 0);
            check.holds("change " + change + " shows", change == 8 || !before.equals(StateText.of(x)));
            check.due("undo()", x.undo(), 5);
            check.holds("all as before change " + change, before.equals(StateText.of(x)));
            x.wear(8);
            check.due("changes", x.count(11), 6);
        }
    }

    private static int change(Recorded x, int change) {
        switch (change) {
            case 0: return x.wear(9);
            case 1: return x.key(0);
            case 2: return x.box(1);
            case 3: return x.copy(1, 2);
            case 4: return x.renew(1);
            case 5: return x.throwKey(1);
            case 6: return x.throwBox(1);
            case 7:
                x.write("r0;k-;y0");
                return x.carryOut();
            default: return x.restore(1);
        }
    }

    private static void undoAtMostSix() {
        check.part("promise 24, six states");
        Recorded x = new Recorded();
        check.due("undo()", x.undo(), NOT_POSSIBLE);
        for (int wear = 10; wear < 20; wear++) {
            x.wear(wear);
            check.due("changes", x.count(11), Math.min(wear - 9, 6));
        }
        for (int left = 5; left >= 0; left--) {
            check.due("undo()", x.undo(), left);
            check.due("WEAR", x.count(7), 13 + left);
        }
        check.due("undo()", x.undo(), NOT_POSSIBLE);
        check.due("WEAR", x.count(7), 13);
        x.wear(13);
        check.due("a change that changes nothing is recorded, too", x.undo(), 0);
        check.due("undo()", x.undo(), NOT_POSSIBLE);
        // Past the end of the ring, forth and back.
        for (int wear = 2; wear < 30; wear++) {
            x.wear(wear);
            x.wear(wear + 1);
            x.undo();
            check.due("WEAR", x.count(7), wear);
        }
        for (int left = x.count(11); left > 0; left--) {
            check.due("undo()", x.undo(), left - 1);
        }
        check.due("WEAR", x.count(7), 24);
    }

    private static void errorsRecordNothing() {
        check.part("promise 24, errors");
        Recorded x = house();
        for (int i = 0; i < 8; i++) {
            x.wear(8);
        }
        x.undo();
        String before = StateText.of(x);
        check.due("changes", x.count(11), 5);
        x.wear(1);
        x.key(7);
        x.box(7);
        x.copy(0, 0);
        x.renew(7);
        x.throwKey(7);
        x.throwBox(7);
        x.carryOut();
        x.restore(0);
        x.restore(2);
        check.due("changes", x.count(11), 5);
        check.holds("nothing changed", before.equals(StateText.of(x)));
        for (int left = 4; left >= 0; left--) {
            check.due("undo()", x.undo(), left);
            check.holds("all as before", before.equals(StateText.of(x)));
        }
    }

    private static void whatUndoLeaves() {
        check.part("promise 24, pad and slots");
        Recorded x = new Recorded();
        x.key(NONE);
        x.save(0);
        x.write("k0;b0");
        x.wear(12);
        x.undo();
        check.due("the pad stays", x.count(10), 5);
        x.save(0);
        x.undo();
        check.due("keys", x.count(0), 0);
        check.due("the slot stays", x.restore(0), 1);
        check.due("undo() of restore", x.undo(), 0);
        check.due("keys", x.count(0), 0);
    }

    private static void save() {
        check.part("promise 25");
        Recorded x = new Recorded();
        check.due("save(-1)", x.save(-1), BAD_VALUE);
        check.due("save(2)", x.save(2), BAD_VALUE);
        check.due("save(MIN)", x.save(Integer.MIN_VALUE), BAD_VALUE);
        check.due("save(0)", x.save(0), 0);
        x.key(NONE);
        x.key(0);
        x.throwKey(1);
        check.due("save(1): all keys count", x.save(1), 2);
        check.due("save is no change", x.count(11), 3);
        check.due("restore(0)", x.restore(0), 0);
        check.due("restore(1)", x.restore(1), 2);
        check.due("live keys", x.count(1), 1);
        x.key(NONE);
        check.due("save(1) overwrites", x.save(1), 3);
        x.restore(0);
        check.due("restore(1)", x.restore(1), 3);
    }

    private static void saveKeepsEverything() {
        check.part("promises 25 and 26, everything");
        Recorded x = house();
        x.wear(5);
        x.throwBox(0);
        x.copy(4, 2);
        String before = StateText.of(x);
        x.save(0);
        x.wear(30);
        x.renew(0);
        x.key(1);
        x.box(1);
        x.throwKey(1);
        x.copy(x.count(4) - 1, 1);
        x.write("k-");
        check.due("restore(0)", x.restore(0), 2);
        check.holds("all as it was saved", before.equals(StateText.of(x)));
        check.due("the pad stays", x.count(10), 2);
        check.due("changes", x.count(11), 6);
        x.renew(0);
        check.due("restore(0): the slot keeps it", x.restore(0), 2);
        check.holds("all as it was saved", before.equals(StateText.of(x)));
        x.throwKey(0);
        x.undo();
        check.holds("undo after restore", before.equals(StateText.of(x)));
    }

    /** Two houses whose keys, boxes and wraps have the same numbers, and nothing else in common. */
    private static void twoHouses() {
        check.part("promises 24 to 26, two houses");
        Recorded x = new Recorded();
        x.save(0);
        x.write("k-;k0;k1;b2;b2;r1;c0@0;c1@1;c2@0");
        x.carryOut();
        String first = StateText.of(x);
        x.save(1);
        x.restore(0);
        x.write("k-;r0;k-;k0;b1;b0;b2;r0;r2;c4@2");
        x.carryOut();
        String second = StateText.of(x);
        x.save(0);
        check.holds("they differ", !first.equals(second));
        check.due("restore(1)", x.restore(1), 3);
        check.holds("the first", first.equals(StateText.of(x)));
        check.due("restore(0)", x.restore(0), 3);
        check.holds("the second", second.equals(StateText.of(x)));
        check.due("undo()", x.undo(), 4);
        check.holds("the first again", first.equals(StateText.of(x)));
        check.due("undo()", x.undo(), 3);
        check.holds("the second again", second.equals(StateText.of(x)));
        x.throwKey(0);
        check.due("restore(1)", x.restore(1), 3);
        check.holds("the first once more", first.equals(StateText.of(x)));
    }

    private static void restore() {
        check.part("promise 26");
        Recorded x = new Recorded();
        check.due("restore(-1)", x.restore(-1), BAD_VALUE);
        check.due("restore(2)", x.restore(2), BAD_VALUE);
        check.due("restore(0)", x.restore(0), NOT_POSSIBLE);
        check.due("restore(1)", x.restore(1), NOT_POSSIBLE);
        x.key(NONE);
        x.save(1);
        check.due("restore(0)", x.restore(0), NOT_POSSIBLE);
        x.key(NONE);
        check.due("restore(1)", x.restore(1), 1);
        check.due("keys", x.count(0), 1);
        check.due("a change", x.count(11), 3);
        check.due("undo()", x.undo(), 2);
        check.due("keys", x.count(0), 2);
    }
}
