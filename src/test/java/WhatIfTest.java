/** Promises 17 to 19: lostBy, throwingMakes, mostWorn. */
final class WhatIfTest {
    private static final int NO_SUCH = Check.NO_SUCH, BAD_VALUE = Check.BAD_VALUE, NONE = Check.NONE,
            NOT_POSSIBLE = Check.NOT_POSSIBLE, TOO_MANY = Check.TOO_MANY;
    private static final Check check = new Check("WhatIfTest");

    public static void main(String[] args) {
        lostBy();
        throwingMakes();
        throwingMakesPastTheLimit();
        mostWorn();
        check.end();
    }

    /** 0 <- 1 <- 3, 0 <- 2; boxes 0 under 1, 1 under 3, 2 under 2, 3 under 0. */
    private static Recorded house() {
        Recorded x = new Recorded();
        x.key(NONE);
        x.key(0);
        x.key(0);
        x.key(1);
        x.box(1);
        x.box(3);
        x.box(2);
        x.box(0);
        return x;
    }

    private static void lostBy() {
        check.part("promise 17");
        Recorded x = house();
        check.due("lostBy(0)", x.lostBy(0), Check.set(0, 1, 2, 3));
        check.due("lostBy(1)", x.lostBy(1), Check.set(0, 1));
        check.due("lostBy(2)", x.lostBy(2), Check.set(2));
        check.due("lostBy(3)", x.lostBy(3), Check.set(1));
        check.due("lostBy(4)", x.lostBy(4), NO_SUCH);
        check.due("lostBy(-1)", x.lostBy(-1), NO_SUCH);
        check.due("lostBy(NONE)", x.lostBy(NONE), NO_SUCH);
        check.due("live keys", x.count(1), 4);
        x.throwBox(1);
        check.due("lostBy(3): nothing", x.lostBy(3), 0);
        check.due("lostBy(1): live ones alone", x.lostBy(1), Check.set(0));
        x.throwKey(1);
        check.due("lostBy(1) not live", x.lostBy(1), NO_SUCH);
        check.due("lostBy(3) not live", x.lostBy(3), NO_SUCH);
        check.due("lostBy(0)", x.lostBy(0), Check.set(2, 3));
    }

    private static void throwingMakes() {
        check.part("promise 18");
        Recorded x = house();
        check.due("throwingMakes(2, 0)", x.throwingMakes(2, 0), BAD_VALUE);
        check.due("throwingMakes(-1, 0)", x.throwingMakes(-1, 0), BAD_VALUE);
        check.due("throwingMakes(2, 9): the kind first", x.throwingMakes(2, 9), BAD_VALUE);
        check.due("throwingMakes(0, 4)", x.throwingMakes(0, 4), NO_SUCH);
        check.due("throwingMakes(0, -1)", x.throwingMakes(0, -1), NO_SUCH);
        check.due("throwingMakes(1, 4)", x.throwingMakes(1, 4), NO_SUCH);
        check.due("throwingMakes(1, -1)", x.throwingMakes(1, -1), NO_SUCH);
        int[] byKey = {0, 2, 2, 4};
        int[] byBox = {4, 5, 3, 2};
        for (int i = 0; i < 4; i++) {
            check.due("throwingMakes(0, " + i + ")", x.throwingMakes(0, i), byKey[i]);
            check.due("throwKey(" + i + ")", x.throwKey(i), byKey[i]);
            x.undo();
            check.due("throwingMakes(1, " + i + ")", x.throwingMakes(1, i), byBox[i]);
            check.due("throwBox(" + i + ")", x.throwBox(i), byBox[i]);
            x.undo();
        }
        check.due("nothing changed", x.count(4), 7);
        x.wear(2);
        check.due("throwingMakes(0, 0)", x.throwingMakes(0, 0), 0);
        check.due("throwingMakes(0, 1)", x.throwingMakes(0, 1), 2);
        check.due("throwingMakes(0, 3)", x.throwingMakes(0, 3), NOT_POSSIBLE);
        check.due("throwingMakes(1, 0)", x.throwingMakes(1, 0), NOT_POSSIBLE);
        check.due("throwingMakes(1, 3)", x.throwingMakes(1, 3), 2);
        x.throwKey(2);
        check.due("throwingMakes(0, 2) not live", x.throwingMakes(0, 2), NO_SUCH);
        check.due("throwingMakes(1, 2) not live", x.throwingMakes(1, 2), NO_SUCH);
    }

    private static void throwingMakesPastTheLimit() {
        check.part("promise 18, past 120 wraps");
        Recorded x = new Recorded();
        x.key(NONE);
        for (int b = 0; b < 8; b++) {
            x.box(0);
        }
        for (int i = 0; i < 14; i++) {
            x.renew(0);
        }
        check.due("wraps", x.count(4), 120);
        check.due("throwBox(0)", x.throwBox(0), TOO_MANY);
        check.due("throwingMakes(1, 0)", x.throwingMakes(1, 0), 7);
        x.wear(6);
        check.due("throwingMakes(1, 0)", x.throwingMakes(1, 0), NOT_POSSIBLE);
    }

    private static void mostWorn() {
        check.part("promise 19");
        Recorded x = new Recorded();
        check.due("mostWorn(0)", x.mostWorn(0), NONE);
        check.due("mostWorn(1)", x.mostWorn(1), NONE);
        check.due("mostWorn(2)", x.mostWorn(2), BAD_VALUE);
        check.due("mostWorn(-1)", x.mostWorn(-1), BAD_VALUE);
        x.key(NONE);
        x.key(NONE);
        check.due("of several the lowest", x.mostWorn(0), 0);
        check.due("left", x.mostWorn(1), 8);
        x.box(1);
        x.box(1);
        x.box(1);
        x.box(0);
        check.due("mostWorn(0)", x.mostWorn(0), 1);
        check.due("mostWorn(1)", x.mostWorn(1), 5);
        x.wear(2);
        check.due("mostWorn(0)", x.mostWorn(0), 1);
        check.due("at least 0", x.mostWorn(1), 0);
        x.box(0);
        check.due("0 and 1 are worn alike", x.mostWorn(0), 0);
        check.due("mostWorn(2)", x.mostWorn(2), BAD_VALUE);
        x.throwKey(0);
        check.due("mostWorn(0)", x.mostWorn(0), 1);
        x.throwKey(1);
        check.due("none is live", x.mostWorn(0), NONE);
        check.due("none is live", x.mostWorn(1), NONE);
        x.key(NONE);
        check.due("mostWorn(0)", x.mostWorn(0), 2);
        check.due("mostWorn(1)", x.mostWorn(1), 2);
    }
}
