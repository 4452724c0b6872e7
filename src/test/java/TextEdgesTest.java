/** The boundary cases of "Texts" and of promises 20 to 23, each with a test of its own. */
final class TextEdgesTest {
    private static final int BAD_VALUE = Check.BAD_VALUE, BAD_TEXT = Check.BAD_TEXT, TOO_MANY = Check.TOO_MANY,
            NONE = Check.NONE;
    private static final String LETTERS = "kbrxyc";
    private static final String DIGITS = "0123456789";
    private static final Check check = new Check("TextEdgesTest");

    public static void main(String[] args) {
        putNothing();
        putLeastCode();
        putGreatestCode();
        putEachCode();
        putOneToEight();
        putBitsAbove();
        putOrderOfCharacters();
        putUpTo60();
        putMoreThan60();
        putValueBeforeLength();

        wipeOfNothing();
        wipeOfAFullPad();
        wipeLeavesNothing();

        firstCharacter();
        afterTheLetters();
        afterAFirstDigit();
        afterTwoDigits();
        afterThreeDigits();
        leadingZeros();
        rootSign();
        afterAt();
        afterAPlace();
        afterASemicolon();
        numbersUpTo119();
        emptyText();
        endsTooEarly();
        faultInAFullPad();
        faultIsTheFirst();
        faultChangesNothing();

        carryOutOfABadText();
        carryOutOfNothing();
        carryOutUpToTheFirstError();
        carryOutOfNoneIsAChange();
        carryOutEmptiesThePad();
        carryOutIsOneChange();
        carryOutTheMostOrders();
        carryOutEachOrder();
        carryOutSeesWhatIsBefore();
        carryOutToTheLimits();
        check.end();
    }

    // ---- promise 20

    private static void putNothing() {
        check.part("Promise 20, put: BAD_VALUE if there is no character");
        Recorded x = new Recorded();
        check.due("put(0)", x.put(0), BAD_VALUE);
        check.due("length", x.count(10), 0);
    }

    private static void putLeastCode() {
        check.part("Promise 20, put: BAD_VALUE if a code is not 33 to 126: 32 and 33");
        Recorded x = new Recorded();
        for (int place = 0; place < 8; place++) {
            check.due("32 in place " + place, x.put(eightWith(32, place)), BAD_VALUE);
            check.due("length", x.count(10), 0);
            check.due("33 in place " + place, x.put(eightWith(33, place)), 8);
            x.wipe();
        }
        check.due("put(32)", x.put(32), BAD_VALUE);
        check.due("put(33)", x.put(33), 1);
    }

    private static void putGreatestCode() {
        check.part("Promise 20, put: BAD_VALUE if a code is not 33 to 126: 126 and 127");
        Recorded x = new Recorded();
        for (int place = 0; place < 8; place++) {
            check.due("127 in place " + place, x.put(eightWith(127, place)), BAD_VALUE);
            check.due("128 in place " + place, x.put(eightWith(128, place)), BAD_VALUE);
            check.due("255 in place " + place, x.put(eightWith(255, place)), BAD_VALUE);
            check.due("length", x.count(10), 0);
            check.due("126 in place " + place, x.put(eightWith(126, place)), 8);
            x.wipe();
        }
        check.due("put(127)", x.put(127), BAD_VALUE);
        check.due("put(126)", x.put(126), 1);
    }

    /** Eight characters, one of them of this code; place 0 is the lowest. */
    private static long eightWith(int code, int place) {
        long number = Check.number("kkkkkkkk");
        return number & ~(255L << 8 * place) | (long) code << 8 * place;
    }

    private static void putEachCode() {
        check.part("Promise 20, put: BAD_VALUE if a code is not 33 to 126: each code alone");
        Recorded x = new Recorded();
        int length = 0;
        for (int code = 0; code < 256; code++) {
            boolean good = code >= 33 && code <= 126 && length < 60;
            length += good ? 1 : 0;
            int due = good ? length : code >= 33 && code <= 126 ? TOO_MANY : BAD_VALUE;
            check.due("put(" + code + ")", x.put(code), due);
        }
    }

    private static void putOneToEight() {
        check.part("Promise 20, put: 1 to 8 characters");
        for (int count = 1; count <= 8; count++) {
            Recorded x = new Recorded();
            check.due("put(" + count + " characters)", x.put(Check.number("k-;k0;b1".substring(0, count))), count);
            check.due("length", x.count(10), count);
        }
    }

    private static void putBitsAbove() {
        check.part("Promise 20, put: BAD_VALUE if a bit above 8 bits that are 0 is not 0");
        Recorded x = new Recorded();
        for (int characters = 0; characters < 7; characters++) {
            long low = Check.number("k-;k0;b".substring(0, characters));
            for (int bit = 8 * characters + 8; bit < 64; bit++) {
                check.due("bit " + bit + " above " + characters, x.put(low | 1L << bit), BAD_VALUE);
            }
            check.due("k above " + characters, x.put(low | (long) 'k' << 8 * characters + 8), BAD_VALUE);
        }
        check.due("length", x.count(10), 0);
        check.due("put(MIN)", x.put(Long.MIN_VALUE), BAD_VALUE);
        check.due("put(MAX)", x.put(Long.MAX_VALUE), BAD_VALUE);
        check.due("put(-1)", x.put(-1), BAD_VALUE);
    }

    private static void putOrderOfCharacters() {
        check.part("Promise 20, put: its lowest 8 bits are the last character, and they are appended");
        Recorded x = new Recorded();
        check.due("put", x.put((long) 'k' << 8 | '-'), 2);
        check.due("put", x.put((long) ';' << 16 | (long) 'b' << 8 | '0'), 5);
        check.due("fault()", x.fault(), NONE);
        check.due("carryOut()", x.carryOut(), 2);
        check.due("box 0 hangs from", x.ofBox(0, 0), 0);
    }

    private static void putUpTo60() {
        check.part("Promise 20, put: a text of at most 60 characters: 60");
        for (int last = 1; last <= 8; last++) {
            Recorded x = new Recorded();
            x.write("k".repeat(60 - last));
            check.due("length", x.count(10), 60 - last);
            check.due("put(" + last + " more)", x.put(Check.number("k".repeat(last))), 60);
            check.due("put(1 more)", x.put('k'), TOO_MANY);
        }
    }

    private static void putMoreThan60() {
        check.part("Promise 20, put: TOO_MANY if the pad would be longer than 60: 61");
        for (int last = 1; last <= 8; last++) {
            Recorded x = new Recorded();
            x.write("k".repeat(61 - last));
            check.due("put(" + last + " more)", x.put(Check.number("k".repeat(last))), TOO_MANY);
            check.due("length", x.count(10), 61 - last);
            if (last > 1) {
                check.due("put(one less)", x.put(Check.number("k".repeat(last - 1))), 60);
            }
        }
    }

    private static void putValueBeforeLength() {
        check.part("Promise 20, put: BAD_VALUE is named before TOO_MANY");
        Recorded x = new Recorded();
        x.write("k".repeat(60));
        check.due("put(0)", x.put(0), BAD_VALUE);
        check.due("put(32)", x.put(32), BAD_VALUE);
        check.due("put(127)", x.put(127), BAD_VALUE);
        check.due("put(k, 0, k)", x.put('k' << 16 | 'k'), BAD_VALUE);
        check.due("put(k)", x.put('k'), TOO_MANY);
        check.due("length", x.count(10), 60);
    }

    // ---- promise 21

    private static void wipeOfNothing() {
        check.part("Promise 21, wipe: an empty pad: 0");
        Recorded x = new Recorded();
        check.due("wipe()", x.wipe(), 0);
        x.put('k');
        check.due("wipe()", x.wipe(), 1);
        check.due("wipe()", x.wipe(), 0);
    }

    private static void wipeOfAFullPad() {
        check.part("Promise 21, wipe: a full pad: 60, and there is room again");
        Recorded x = new Recorded();
        x.write("k".repeat(60));
        check.due("wipe()", x.wipe(), 60);
        check.due("length", x.count(10), 0);
        check.due("put(8)", x.put(Check.number("kkkkkkkk")), 8);
    }

    private static void wipeLeavesNothing() {
        check.part("Promise 21, wipe: empties the pad: what stood there is not read any more");
        Recorded x = new Recorded();
        x.write("k-;k-");
        x.wipe();
        check.due("fault()", x.fault(), 0);
        check.due("carryOut()", x.carryOut(), BAD_TEXT);
        x.write("k");
        check.due("fault()", x.fault(), 1);
        check.due("changes", x.count(11), 0);
    }

    // ---- promise 22 and the grammar

    /** Every code behind a beginning: those that can stand there, and the others, at which the fault is. */
    private static void canStandAfter(String beginning, String characters) {
        check.part("Texts: what can stand after '" + beginning + "'");
        for (char code = 33; code <= 126; code++) {
            int fault = Check.faultOf(beginning + code);
            if (characters.indexOf(code) >= 0) {
                check.holds(code + " can stand: " + fault, fault == NONE || fault == beginning.length() + 1);
            } else {
                check.due("fault at " + code, fault, beginning.length());
            }
        }
    }

    private static void firstCharacter() {
        canStandAfter("", LETTERS);
    }

    private static void afterTheLetters() {
        canStandAfter("k", DIGITS + "-");
        canStandAfter("b", DIGITS);
        canStandAfter("r", DIGITS);
        canStandAfter("x", DIGITS);
        canStandAfter("y", DIGITS);
        canStandAfter("c", DIGITS);
    }

    private static void afterAFirstDigit() {
        for (char letter : LETTERS.toCharArray()) {
            String end = letter == 'c' ? "@" : ";";
            canStandAfter(letter + "1", DIGITS + end);
            canStandAfter(letter + "2", DIGITS + end);
            canStandAfter(letter + "9", DIGITS + end);
        }
    }

    private static void afterTwoDigits() {
        for (char letter : LETTERS.toCharArray()) {
            String end = letter == 'c' ? "@" : ";";
            canStandAfter(letter + "10", DIGITS + end);
            canStandAfter(letter + "11", DIGITS + end);
            canStandAfter(letter + "12", end);
            canStandAfter(letter + "20", end);
            canStandAfter(letter + "99", end);
        }
    }

    private static void afterThreeDigits() {
        for (char letter : LETTERS.toCharArray()) {
            String end = letter == 'c' ? "@" : ";";
            canStandAfter(letter + "100", end);
            canStandAfter(letter + "119", end);
        }
    }

    private static void leadingZeros() {
        for (char letter : LETTERS.toCharArray()) {
            canStandAfter(letter + "0", letter == 'c' ? "@" : ";");
        }
    }

    private static void rootSign() {
        canStandAfter("k-", ";");
        check.part("Texts: \"-\": a root, of k alone");
        check.due("fault of k-", Check.faultOf("k-"), NONE);
        for (String text : new String[] {"b-", "r-", "x-", "y-", "c-"}) {
            check.due("fault of " + text, Check.faultOf(text), 1);
        }
    }

    private static void afterAt() {
        canStandAfter("c0@", "012");
        canStandAfter("c119@", "012");
    }

    private static void afterAPlace() {
        canStandAfter("c0@0", ";");
        canStandAfter("c0@2", ";");
        canStandAfter("c119@1", ";");
    }

    private static void afterASemicolon() {
        canStandAfter("k-;", LETTERS);
        canStandAfter("b0;", LETTERS);
        canStandAfter("c5@2;", LETTERS);
        canStandAfter("k-;k-;k-;", LETTERS);
    }

    private static void numbersUpTo119() {
        check.part("Texts: a number is 0 to 119 (also of a digit by which a number would be above 119)");
        for (int number = 0; number < 1300; number++) {
            int due = number <= 119 ? NONE : number <= 999 ? 3 : number / 10 <= 119 ? 4 : 3;
            check.due("fault of k" + number, Check.faultOf("k" + number), due);
            int dueOfCopy = due == NONE ? NONE : due;
            check.due("fault of c" + number + "@0", Check.faultOf("c" + number + "@0"), dueOfCopy);
        }
        check.due("ten digits", Check.faultOf("r1111111111"), 4);
        check.due("a number that wraps around", Check.faultOf("r4294967296"), 3);
    }

    private static void emptyText() {
        check.part("Texts: also if it is empty: the fault is the length of the text");
        check.due("fault()", new Recorded().fault(), 0);
        check.due("carryOut()", new Recorded().carryOut(), BAD_TEXT);
    }

    private static void endsTooEarly() {
        check.part("Texts: if there is none and the text ends too early, it is the length of the text");
        String[] texts = {"k", "b", "r", "x", "y", "c", "c0", "c119", "c0@", "c119@", "k-;", "b0;", "c0@0;", "k-;c3@"};
        for (String text : texts) {
            check.due("fault of " + text, Check.faultOf(text), text.length());
        }
    }

    private static void faultInAFullPad() {
        check.part("Texts: 60 characters: no fault, a fault at the last one, an end that comes too early");
        String beginning = "c119@2;".repeat(8);
        check.due("no fault", Check.faultOf(beginning + "k100"), NONE);
        check.due("at the last one", Check.faultOf(beginning + "k10k"), 59);
        check.due("at the last one", Check.faultOf(beginning + "k120"), 59);
        check.due("too early", Check.faultOf(beginning + "k10;"), 60);
        check.due("too early", Check.faultOf(beginning + "c10@"), 60);
        check.due("twenty orders", Check.faultOf("k-;".repeat(19) + "k-"), NONE);
        check.due("twenty orders and a semicolon", Check.faultOf("k-;".repeat(20)), 60);
    }

    private static void faultIsTheFirst() {
        check.part("Texts: the first character that cannot stand at its place, whatever comes after it");
        check.due("fault of k-;;;", Check.faultOf("k-;;;"), 3);
        check.due("fault of ;k-", Check.faultOf(";k-"), 0);
        check.due("fault of k01;q", Check.faultOf("k01;q"), 2);
        check.due("fault of c0@3;c0@", Check.faultOf("c0@3;c0@"), 3);
        check.due("fault of k120;", Check.faultOf("k120;"), 3);
    }

    private static void faultChangesNothing() {
        check.part("Promise 22, fault: the pad stays");
        Recorded x = new Recorded();
        x.write("k-;k0;q");
        check.due("fault()", x.fault(), 6);
        check.due("fault()", x.fault(), 6);
        check.due("length", x.count(10), 7);
        check.due("keys", x.count(0), 0);
        Recorded y = new Recorded();
        y.write("k-;k0");
        check.due("fault()", y.fault(), NONE);
        check.due("keys", y.count(0), 0);
        check.due("carryOut()", y.carryOut(), 2);
    }

    // ---- promise 23

    private static void carryOutOfABadText() {
        check.part("Promise 23, carryOut: BAD_TEXT if the pad has a fault (then it stays)");
        for (String text : new String[] {"q", "k-;", "k-;k", "k-;k-;k120", "k-;b00", "k-;c0@3"}) {
            Recorded x = new Recorded();
            int length = x.write(text);
            check.due("carryOut() of " + text, x.carryOut(), BAD_TEXT);
            check.due("length", x.count(10), length);
            check.due("keys", x.count(0), 0);
            check.due("changes", x.count(11), 0);
            check.due("undo()", x.undo(), Check.NOT_POSSIBLE);
            check.due("wipe()", x.wipe(), length);
        }
    }

    private static void carryOutOfNothing() {
        check.part("Promise 23, carryOut: BAD_TEXT if the pad is empty");
        Recorded x = new Recorded();
        check.due("carryOut()", x.carryOut(), BAD_TEXT);
        x.write("k-");
        check.due("carryOut()", x.carryOut(), 1);
        check.due("carryOut() again", x.carryOut(), BAD_TEXT);
        check.due("changes", x.count(11), 1);
    }

    private static void carryOutUpToTheFirstError() {
        check.part("Promise 23, carryOut: up to the first one that returns an error: each kind of error, each order");
        String[] orders = {"k9", "b9", "r9", "x9", "y19", "c99@0", "c0@0", "b1", "r1"};
        for (String order : orders) {
            Recorded x = Houses.chain(2);
            x.copy(0, 0);
            Houses.hangBoxes(x, 0, 7);
            Houses.hangBoxes(x, 1, 8);
            check.due("carryOut() of " + order, x.order("k-;" + order + ";k-"), 1);
            check.due("keys", x.count(0), 3);
            check.due("length", x.count(10), 0);
        }
    }

    private static void carryOutOfNoneIsAChange() {
        check.part("Promise 23, carryOut: also if none is carried out");
        Recorded x = Houses.chain(1);
        check.due("carryOut()", x.order("k5;k-"), 0);
        check.due("changes", x.count(11), 2);
        check.due("keys", x.count(0), 1);
        check.due("length", x.count(10), 0);
        check.due("undo()", x.undo(), 1);
        check.due("keys", x.count(0), 1);
        check.due("undo()", x.undo(), 0);
        check.due("keys", x.count(0), 0);
    }

    private static void carryOutEmptiesThePad() {
        check.part("Promise 23, carryOut: and empties the pad, also if not all are carried out");
        Recorded x = new Recorded();
        check.due("carryOut()", x.order("k-;k7;k-"), 1);
        check.due("length", x.count(10), 0);
        check.due("fault()", x.fault(), 0);
        check.due("wipe()", x.wipe(), 0);
        x.undo();
        check.due("undo leaves the pad", x.count(10), 0);
    }

    private static void carryOutIsOneChange() {
        check.part("Promise 23, carryOut: one change, with all of them");
        Recorded x = Houses.chain(2);
        check.due("carryOut()", x.order("b1;b1;r1;r0;k1;k-;y0;x2"), 8);
        check.due("changes", x.count(11), 3);
        check.due("undo()", x.undo(), 2);
        check.due("keys", x.count(0), 2);
        check.due("wraps", x.count(4), 1);
        check.due("boxes", x.count(2), 0);
    }

    private static void carryOutTheMostOrders() {
        check.part("Promise 23, carryOut: 20 orders, the most that 60 characters hold");
        Recorded x = new Recorded();
        check.due("carryOut()", x.order("k-;".repeat(19) + "k-"), 20);
        check.due("keys", x.count(0), 20);
        check.due("changes", x.count(11), 1);
        check.due("undo()", x.undo(), 0);
        check.due("keys", x.count(0), 0);
    }

    private static void carryOutEachOrder() {
        check.part("Texts: k, b, r, x, y and c, with the numbers and the places");
        Recorded x = new Recorded();
        check.due("k-", x.order("k-"), 1);
        check.due("a root", x.ofKey(0, 0), NONE);
        check.due("k0", x.order("k0"), 1);
        check.due("hangs from", x.ofKey(1, 0), 0);
        check.due("b1", x.order("b1"), 1);
        check.due("hangs from", x.ofBox(0, 0), 1);
        check.due("r1", x.order("r1"), 1);
        check.due("make", x.ofKey(1, 2), 1);
        check.due("c2@2", x.order("c2@2"), 1);
        check.due("places", x.wrap(2, 5), 4);
        check.due("c2@0", x.order("c2@0"), 1);
        check.due("places", x.wrap(2, 5), 5);
        check.due("c3@1", x.order("c3@1"), 1);
        check.due("places", x.wrap(3, 5), 2);
        check.due("y0", x.order("y0"), 1);
        check.due("live boxes", x.count(3), 0);
        check.due("x1", x.order("x1"), 1);
        check.due("live keys", x.count(1), 1);
        check.due("changes", x.count(11), 6);
    }

    private static void carryOutSeesWhatIsBefore() {
        check.part("Promise 23, carryOut: one after the other");
        Recorded x = new Recorded();
        check.due("carryOut()", x.order("k-;k0;k1;b2;c2@1;r2;c4@1;x0"), 8);
        check.due("live keys", x.count(1), 0);
        check.due("copies", x.count(6), 2);
        check.due("leaks", x.leaks(0, 0, 7), 0);
    }

    private static void carryOutToTheLimits() {
        check.part("Promise 23, carryOut: number 119, and orders that meet the limits of 20 keys and 120 wraps");
        Recorded x = Houses.withWraps(118);
        check.due("carryOut()", x.order("b1;b1;c119@0;b1"), 3);
        check.due("places of the last wrap", x.wrap(119, 5), 1);
        check.due("carryOut()", x.order("r1;k-"), 0);
        check.due("carryOut()", x.order("k-;k-;k0;k-"), 2);
        check.due("keys", x.count(0), 4);
        check.due("carryOut()", x.order("k-;".repeat(19) + "k-"), 16);
        check.due("keys", x.count(0), 20);
    }
}
