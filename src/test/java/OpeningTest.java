/** Promises 13 to 16: canOpen, canHave, way, leaks. */
final class OpeningTest {
    private static final int NO_SUCH = Check.NO_SUCH, BAD_VALUE = Check.BAD_VALUE, NONE = Check.NONE;
    private static final Check check = new Check("OpeningTest");

    public static void main(String[] args) {
        canOpenErrors();
        canOpenByCopies();
        canHaveErrors();
        canHaveOldMakes();
        closedByAnOldMakeAndWrappedLater();
        way();
        leaks();
        leaksByOldRoots();
        check.end();
    }

    /** A chain 0 <- 1 <- 2 with box 0 under 2: wraps 0 (key 1), 1 (key 2), 2 (box 0). */
    private static Recorded chain() {
        Recorded x = new Recorded();
        x.key(NONE);
        x.key(0);
        x.key(1);
        x.box(2);
        return x;
    }

    private static void canOpenErrors() {
        check.part("promise 13, errors");
        Recorded x = chain();
        check.due("canOpen(1, 0)", x.canOpen(1, 0), NO_SUCH);
        check.due("canOpen(-1, 0)", x.canOpen(-1, 0), NO_SUCH);
        check.due("canOpen(1, 8): no such box first", x.canOpen(1, 8), NO_SUCH);
        check.due("canOpen(0, 8)", x.canOpen(0, 8), BAD_VALUE);
        check.due("canOpen(0, -1)", x.canOpen(0, -1), BAD_VALUE);
        check.due("canOpen(MAX, 0)", x.canOpen(Integer.MAX_VALUE, 0), NO_SUCH);
        for (int places = 0; places < 8; places++) {
            check.due("canOpen(0, " + places + ")", x.canOpen(0, places), 1);
        }
    }

    private static void canOpenByCopies() {
        check.part("promise 13");
        // Throwing away makes the root anew, and no copy helps without the make that closed it.
        Recorded y = chain();
        y.wear(30);
        y.copy(2, 0);
        y.copy(1, 1);
        y.copy(0, 2);
        check.due("throwKey(2)", y.throwKey(2), 1);
        check.due("after the root was made anew", y.canOpen(0, 7), 0);
        y.undo();
        check.due("before", y.canOpen(0, 0), 1);
        y.throwBox(0);
        check.due("thrown away", y.canOpen(0, 7), 0);

        // Copies lead to an old make of key 1 as long as the root that closes them is in the safe.
        Recorded x = chain();
        x.copy(1, 0);
        x.copy(0, 1);
        x.renew(1);
        check.due("old make of 1 with no places", x.canHave(1, 0, 0), 0);
        check.due("old make of 1 with place 1", x.canHave(1, 0, 2), 1);
        check.due("the box stays open", x.canOpen(0, 0), 1);
        check.due("with the wrong places", x.canHave(1, 0, 5), 0);
    }

    private static void canHaveErrors() {
        check.part("promise 14, errors");
        Recorded x = chain();
        check.due("canHave(3, 0, 0)", x.canHave(3, 0, 0), NO_SUCH);
        check.due("canHave(-1, 0, 0)", x.canHave(-1, 0, 0), NO_SUCH);
        check.due("canHave(NONE, 0, 0)", x.canHave(NONE, 0, 0), NO_SUCH);
        check.due("canHave(3, -1, 8): no such key first", x.canHave(3, -1, 8), NO_SUCH);
        check.due("canHave(0, -1, 0)", x.canHave(0, -1, 0), BAD_VALUE);
        check.due("canHave(0, NONE, 0)", x.canHave(0, NONE, 0), BAD_VALUE);
        check.due("canHave(0, 0, 8)", x.canHave(0, 0, 8), BAD_VALUE);
        check.due("canHave(0, 0, -1)", x.canHave(0, 0, -1), BAD_VALUE);
        for (int k = 0; k < 3; k++) {
            check.due("canHave(" + k + ", 0, 0)", x.canHave(k, 0, 0), 1);
            check.due("canHave(" + k + ", 1, 7)", x.canHave(k, 1, 7), 0);
            check.due("canHave(" + k + ", MAX, 7)", x.canHave(k, Integer.MAX_VALUE, 7), 0);
        }
    }

    private static void canHaveOldMakes() {
        check.part("promise 14");
        Recorded x = chain();
        x.copy(0, 0);
        x.renew(1);
        x.copy(3, 1);
        x.renew(1);
        int[][] dues = {{0, 1, 0, 1, 0, 1, 0, 1}, {0, 0, 1, 1, 0, 0, 1, 1}, {1, 1, 1, 1, 1, 1, 1, 1}};
        for (int make = 0; make < 3; make++) {
            for (int places = 0; places < 8; places++) {
                check.due("canHave(1, " + make + ", " + places + ")", x.canHave(1, make, places), dues[make][places]);
            }
        }
        x.renew(0);
        check.due("old make of the root", x.canHave(0, 0, 7), 0);
        check.due("new make of the root", x.canHave(0, 1, 0), 1);
        check.due("canHave(1, 0, 7)", x.canHave(1, 0, 7), 0);
        check.due("canHave(1, 1, 7)", x.canHave(1, 1, 7), 0);
        check.due("canHave(1, 2, 0)", x.canHave(1, 2, 0), 1);
        check.due("canHave(2, 0, 0)", x.canHave(2, 0, 0), 1);
        x.throwKey(2);
        check.due("thrown away", x.canHave(2, 0, 7), 0);
        x.throwKey(0);
        check.due("a root thrown away is not in the safe", x.canHave(0, 2, 7), 0);
    }

    /** The wrap that gives the closer may have been made after the wrap that it closes. */
    private static void closedByAnOldMakeAndWrappedLater() {
        check.part("promises 13 and 14, order of the wraps");
        Recorded x = chain();
        x.copy(2, 0);
        x.renew(1);
        // wraps: 3 holds key 1 make 1, 4 holds key 2 make 0 (closed by key 1 make 1).
        x.copy(4, 1);
        x.renew(2);
        // wraps: 5 holds key 2 make 1, 6 holds box 0.
        check.due("old make of 2 with no places", x.canHave(2, 0, 0), 0);
        check.due("old make of 2 with place 0", x.canHave(2, 0, 1), 0);
        check.due("old make of 2 with place 1", x.canHave(2, 0, 2), 1);
        check.due("new make of 2", x.canHave(2, 1, 0), 1);
        check.due("leaks(0, 0, 3): no copy of a wrap of 1", x.leaks(0, 0, 3), 0);
        x.copy(3, 2);
        check.due("leaks(0, 0, 7)", x.leaks(0, 0, 7), 1);
        check.due("leaks(0, 0, 6)", x.leaks(0, 0, 6), 0);
        check.due("leaks(0, 0, 5)", x.leaks(0, 0, 5), 0);
    }

    private static void way() {
        check.part("promise 15");
        Recorded x = chain();
        x.box(0);
        check.due("way(2, 0)", x.way(2, 0), NO_SUCH);
        check.due("way(-1, 0)", x.way(-1, 0), NO_SUCH);
        check.due("way(2, -1): no such box first", x.way(2, -1), NO_SUCH);
        check.due("way(0, -1)", x.way(0, -1), BAD_VALUE);
        check.due("way(0, MIN)", x.way(0, Integer.MIN_VALUE), BAD_VALUE);
        wayIs(x, 0, 0, 1, 2);
        wayIs(x, 1, 3);
        x.renew(1);
        wayIs(x, 0, 4, 5, 2);
        x.renew(0);
        wayIs(x, 0, 6, 5, 2);
        wayIs(x, 1, 7);
        x.renew(2);
        wayIs(x, 0, 6, 8, 9);
        x.throwBox(1);
        check.due("way(1, 0) not live", x.way(1, 0), NO_SUCH);
        wayIs(x, 0, 10, 8, 9);
    }

    private static void wayIs(Recorded x, int box, int... wraps) {
        for (int step = 0; step < wraps.length; step++) {
            check.due("way(" + box + ", " + step + ")", x.way(box, step), wraps[step]);
        }
        check.due("way(" + box + ", " + wraps.length + ")", x.way(box, wraps.length), NONE);
        check.due("way(" + box + ", MAX)", x.way(box, Integer.MAX_VALUE), NONE);
    }

    private static void leaks() {
        check.part("promise 16");
        Recorded x = chain();
        x.key(NONE);
        x.box(3);
        x.box(0);
        check.due("leaks(4, 0, 0)", x.leaks(4, 0, 0), NO_SUCH);
        check.due("leaks(-1, 0, 0)", x.leaks(-1, 0, 0), NO_SUCH);
        check.due("leaks(1, 0, 0): no root", x.leaks(1, 0, 0), NO_SUCH);
        check.due("leaks(1, -1, 8): no root first", x.leaks(1, -1, 8), NO_SUCH);
        check.due("leaks(0, -1, 0)", x.leaks(0, -1, 0), BAD_VALUE);
        check.due("leaks(0, NONE, 0)", x.leaks(0, NONE, 0), BAD_VALUE);
        check.due("leaks(0, 0, 8)", x.leaks(0, 0, 8), BAD_VALUE);
        check.due("leaks(0, 0, -1)", x.leaks(0, 0, -1), BAD_VALUE);
        check.due("leaks(0, 0, 7): nothing of the house", x.leaks(0, 0, 7), 0);
        x.copy(0, 0);
        x.copy(1, 0);
        x.copy(2, 1);
        x.copy(3, 2);
        x.copy(4, 2);
        int[] dues = {0, 0, 0, 1, 4, 4, 4, 5};
        for (int places = 0; places < 8; places++) {
            check.due("leaks(0, 0, " + places + ")", x.leaks(0, 0, places), dues[places]);
            check.due("leaks(3, 0, " + places + ")", x.leaks(3, 0, places), places >= 4 ? 2 : 0);
            check.due("leaks(0, 1, " + places + ")", x.leaks(0, 1, places), 0);
        }
    }

    private static void leaksByOldRoots() {
        check.part("promise 16, old makes and roots that are not live");
        Recorded x = new Recorded();
        x.key(NONE);
        x.box(0);
        x.box(0);
        x.copy(0, 0);
        x.throwBox(0);
        x.copy(2, 1);
        x.throwKey(0);
        check.due("leaks(0, 0, 7): a box thrown away", x.leaks(0, 0, 7), Check.set(0));
        check.due("leaks(0, 1, 7)", x.leaks(0, 1, 7), Check.set(1));
        check.due("leaks(0, 1, 1)", x.leaks(0, 1, 1), 0);
        check.due("leaks(0, 2, 7)", x.leaks(0, 2, 7), 0);
        check.due("canOpen(0, 7)", x.canOpen(0, 7), 0);
    }
}
