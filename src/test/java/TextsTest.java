/** Promises 20 to 23: put, wipe, fault, carryOut. */
final class TextsTest {
    private static final int BAD_VALUE = Check.BAD_VALUE, BAD_TEXT = Check.BAD_TEXT, TOO_MANY = Check.TOO_MANY,
            NONE = Check.NONE;
    private static final Check check = new Check("TextsTest");

    public static void main(String[] args) {
        put();
        putTooMany();
        wipe();
        faultless();
        faults();
        carryOut();
        carryOutUpToAnError();
        carryOutIsOneChange();
        check.end();
    }

    private static void put() {
        check.part("promise 20");
        Recorded x = new Recorded();
        check.due("put(0)", x.put(0), BAD_VALUE);
        check.due("put(space)", x.put(32), BAD_VALUE);
        check.due("put(127)", x.put(127), BAD_VALUE);
        check.due("put(255)", x.put(255), BAD_VALUE);
        check.due("put(-1)", x.put(-1), BAD_VALUE);
        check.due("put(MIN)", x.put(Long.MIN_VALUE), BAD_VALUE);
        check.due("put(256): 0 below", x.put(256), BAD_VALUE);
        check.due("put(k, 0, k)", x.put(0x6b006bL), BAD_VALUE);
        check.due("put(0x100..006b)", x.put(0x010000000000006bL), BAD_VALUE);
        check.due("put(0x800..006b)", x.put(0x800000000000006bL), BAD_VALUE);
        check.due("put with a first sign of 128", x.put(0x806b6b6b6b6b6b6bL), BAD_VALUE);
        check.due("put with a first sign of 32", x.put(0x206bL), BAD_VALUE);
        check.due("length", x.count(10), 0);
        check.due("put(33)", x.put(33), 1);
        check.due("put(126)", x.put(126), 2);
        check.due("put(eight)", x.put(Check.number("abcdefgh")), 10);
        check.due("put(three)", x.put(Check.number("abc")), 13);
        x.wipe();
        check.due("put(k-)", x.put(0x6b2dL), 2);
        check.due("the lowest 8 bits are the last", x.fault(), NONE);
        check.due("put is no change", x.count(11), 0);
    }

    private static void putTooMany() {
        check.part("promise 20, 60 characters");
        Recorded x = new Recorded();
        check.due("56", x.write("k-;k-;k-;k-;k-;k-;k-;k-;k-;k-;k-;k-;k-;k-;k-;k-;k-;k-;k-"), 56);
        check.due("put(5 more)", x.put(Check.number(";k-;k")), TOO_MANY);
        check.due("put(8 bad ones): the value first", x.put(-1), BAD_VALUE);
        check.due("length", x.count(10), 56);
        check.due("put(3 more)", x.put(Check.number(";k-")), 59);
        check.due("put(2 more)", x.put(Check.number(";k")), TOO_MANY);
        check.due("fault()", x.fault(), NONE);
        check.due("put(1 more)", x.put(';'), 60);
        check.due("fault()", x.fault(), 60);
        check.due("put(1 more)", x.put(';'), TOO_MANY);
        check.due("wipe()", x.wipe(), 60);
        check.due("put(1)", x.put(';'), 1);
    }

    private static void wipe() {
        check.part("promise 21");
        Recorded x = new Recorded();
        check.due("wipe()", x.wipe(), 0);
        x.write("k-;k0;b1");
        check.due("wipe()", x.wipe(), 8);
        check.due("wipe()", x.wipe(), 0);
        check.due("fault()", x.fault(), 0);
        x.write("k");
        check.due("what was wiped plays no part", x.fault(), 1);
        check.due("wipe is no change", x.count(11), 0);
    }

    private static void faultless() {
        check.part("promise 22, no fault");
        String[] texts = {
            "k-", "k0", "k9", "k10", "k99", "k100", "k109", "k110", "k119", "b0", "b119", "r0", "r19", "x0", "x100",
            "y0", "y7", "c0@0", "c119@1", "c55@2", "k-;k-", "k-;k0;b1;r0;x1;y0;c0@2", "c0@0;c0@1", "k0;k-;k119;k-"
        };
        for (String text : texts) {
            check.due("fault of " + text, Check.faultOf(text), NONE);
        }
    }

    private static void faults() {
        check.part("promise 22, faults");
        String[] texts = {
            "", "k", "b", "r", "x", "y", "c", "c0", "c12", "c0@", "k-;", "b0;", "c0@1;", "k-;k", "k-;c1@",
            "q", "K-", "-", "0", ";", "@", "!", "~", "k;", "b;", "b-", "r-", "x-", "y-", "c-", "c@", "k@", "ka",
            "k--", "k-0", "k-k", "k-@", "k0-", "k00", "k01", "b09", "k120", "k125", "k129", "k130", "k200", "k999",
            "k990", "k1190", "k1000", "k119;", "b1b", "b0@0", "b0;;", "k0;;k0", "c0;", "c0@3", "c0@9", "c0@-",
            "c0@@", "c0@;", "c0@00", "c0@0@", "c120@0", "c00@0", "c0@1k", "c1190@0", "k-;q0", "k-;k-;b120;k-",
            "k/", "k:", "c0@/", "b1:", "b11/"
        };
        int[] dues = {
            0, 1, 1, 1, 1, 1, 1, 2, 3, 3, 3, 3, 5, 4, 6,
            0, 0, 0, 0, 0, 0, 0, 0, 1, 1, 1, 1, 1, 1, 1, 1, 1, 1,
            2, 2, 2, 2, 2, 2, 2, 2, 3, 3, 3, 3, 3, 3,
            3, 4, 4, 5, 2, 2, 3, 3, 2, 3, 3, 3,
            3, 3, 4, 4, 3, 2, 4, 4, 3, 9,
            1, 1, 3, 2, 3
        };
        check.due("texts", texts.length, dues.length);
        for (int i = 0; i < texts.length; i++) {
            check.due("fault of '" + texts[i] + "'", Check.faultOf(texts[i]), dues[i]);
        }
        Recorded x = new Recorded();
        x.write("k-;q");
        check.due("fault()", x.fault(), 3);
        check.due("fault() again: it stays", x.fault(), 3);
        check.due("length", x.count(10), 4);
    }

    private static void carryOut() {
        check.part("promise 23");
        Recorded x = new Recorded();
        check.due("carryOut()", x.carryOut(), BAD_TEXT);
        x.write("k-;k0;k0;b1;c2@1;r1;b2;y0;x2");
        check.due("carryOut()", x.carryOut(), 9);
        check.due("length", x.count(10), 0);
        check.due("keys", x.count(0), 3);
        check.due("live keys", x.count(1), 2);
        check.due("boxes", x.count(2), 2);
        check.due("live boxes", x.count(3), 0);
        check.due("place of the copy", x.wrap(2, 5), 2);
        check.due("make of 0", x.ofKey(0, 2), 2);
        check.due("make of 1", x.ofKey(1, 2), 2);
        check.due("make of 2", x.ofKey(2, 2), 0);
        x.write("b1;q");
        check.due("carryOut(): bad text", x.carryOut(), BAD_TEXT);
        check.due("the pad stays", x.count(10), 4);
        check.due("nothing is carried out", x.count(2), 2);
        check.due("and nothing recorded", x.count(11), 1);
    }

    private static void carryOutUpToAnError() {
        check.part("promise 23, up to an error");
        Recorded x = new Recorded();
        x.write("k-;k0;k7;b0");
        check.due("carryOut()", x.carryOut(), 2);
        check.due("keys", x.count(0), 2);
        check.due("boxes", x.count(2), 0);
        check.due("length", x.count(10), 0);
        x.write("b119");
        check.due("carryOut()", x.carryOut(), 0);
        check.due("also a change", x.count(11), 2);
        check.due("undo()", x.undo(), 1);
        check.due("keys", x.count(0), 2);
        x.write("c0@0;c0@0;c0@1");
        check.due("carryOut()", x.carryOut(), 1);
        check.due("copies", x.count(6), 1);
        x.write("r1;x1;x1");
        check.due("carryOut()", x.carryOut(), 2);
        check.due("live keys", x.count(1), 1);
        x.write("k-;k-;k-;k-;k-;k-;k-;k-;k-;k-;k-;k-;k-;k-;k-;k-;k-;k-;k-;k-");
        check.due("carryOut(): 20 orders, room for 18 keys", x.carryOut(), 18);
        check.due("keys", x.count(0), 20);
        x.write("r0;r0;r0;r0;r0;r0;r0;r0;r0;r0;r0;r0;r0;r0;r0;r0;r0;r0;r0;r0");
        check.due("carryOut(): 20 orders", x.carryOut(), 20);
        check.due("make of 0", x.ofKey(0, 2), 21);
    }

    private static void carryOutIsOneChange() {
        check.part("promise 23, one change");
        Recorded x = new Recorded();
        x.wear(9);
        x.write("k-;k0;k0;k0;k0;k0;k0;k0;k0;b0");
        check.due("carryOut()", x.carryOut(), 10);
        check.due("changes", x.count(11), 2);
        check.due("undo()", x.undo(), 1);
        check.due("keys", x.count(0), 0);
        check.due("the pad stays empty", x.count(10), 0);
        check.due("WEAR", x.count(7), 9);
        check.due("undo()", x.undo(), 0);
        check.due("WEAR", x.count(7), 8);
    }
}
