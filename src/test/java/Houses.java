/** Houses from which tests start. */
final class Houses {
    static final int NONE = Check.NONE;

    private Houses() {
    }

    /** Keys 0, 1, 2 and so on, each hanging from the one before: wrap k - 1 holds key k. */
    static Recorded chain(int keys) {
        Recorded x = new Recorded();
        hangChain(x, keys);
        return x;
    }

    static void hangChain(Recorded x, int keys) {
        for (int k = 0; k < keys; k++) {
            x.key(k == 0 ? NONE : k - 1);
        }
    }

    /** Root 0 and boxes that hang from it: wrap b holds box b. */
    static Recorded rootWithBoxes(int boxes) {
        Recorded x = new Recorded();
        x.wear(30);
        x.key(NONE);
        hangBoxes(x, 0, boxes);
        return x;
    }

    static void hangBoxes(Recorded x, int key, int boxes) {
        for (int b = 0; b < boxes; b++) {
            x.box(key);
        }
    }

    static void hangKeys(Recorded x, int key, int keys) {
        for (int k = 0; k < keys; k++) {
            x.key(key);
        }
    }

    /** Root 0 and key 1 under it, wrapped again until there are so many wraps; only the last one is in the house. */
    static Recorded withWraps(int wraps) {
        Recorded x = new Recorded();
        fillWithWraps(x, wraps);
        return x;
    }

    static void fillWithWraps(Recorded x, int wraps) {
        x.key(NONE);
        x.key(0);
        for (int w = 1; w < wraps; w++) {
            x.renew(0);
        }
    }

    /** Key 0 <- 1 <- 2 with boxes 0 and 1 under key 2, and key 3 and box 2 under key 1, and box 3 under key 0. */
    static Recorded tree() {
        Recorded x = chain(3);
        x.box(2);
        x.box(2);
        x.key(1);
        x.box(1);
        x.box(0);
        return x;
    }
}
