/**
 * A house in which data are thrown away by throwing away a key.
 * The document ../shared/DOC.md says what each call answers.
 */
public final class HangingKeys {
    public static final int NO_SUCH = -1, BAD_VALUE = -2, BAD_TEXT = -3, TOO_MANY = -4, NOT_POSSIBLE = -5, NONE = -6;

    private static final int MOST_KEYS = 20;
    private static final int MOST_BOXES = 20;
    private static final int MOST_WRAPS = 120;
    private static final int FIRST_WEAR = 8;
    private static final int LEAST_WEAR = 2;
    private static final int MOST_WEAR = 30;
    private static final int PLACES = 3;
    private static final int NO_PLACES = 0;
    private static final int ALL_PLACES = 7;
    /** A member beside the places outside, so that one set tells all the places in which a wrap stands. */
    private static final int IN_HOUSE = 8;
    private static final int KIND_KEY = 0;
    private static final int KIND_BOX = 1;
    private static final int SLOTS = 2;
    private static final int MEMBERS_OF_A_SET = 32;
    private static final int MOST_STATES = 6;
    private static final int MOST_CHARACTERS = 60;
    private static final int MOST_CHARACTERS_PUT = 8;
    private static final int FIRST_SIGN = 33;
    private static final int LAST_SIGN = 126;
    private static final int HIGHEST_NUMBER = 119;
    private static final int MOST_DIGITS = 3;

    private final House house = new House();
    private final Opening opening = new Opening();
    private final Pad pad = new Pad();
    private final History history = new History();
    /** A slot is null until something is saved in it. */
    private final House[] slots = new House[SLOTS];

    public HangingKeys() {
    }

    // ---- changes

    public int wear(int wear) {
        history.noteBefore(house);
        return history.settle(house.changeWear(wear));
    }

    public int key(int parent) {
        history.noteBefore(house);
        return history.settle(house.makeKey(parent));
    }

    public int box(int key) {
        history.noteBefore(house);
        return history.settle(house.makeBox(key));
    }

    public int copy(int wrap, int place) {
        history.noteBefore(house);
        return history.settle(house.copyOut(wrap, place));
    }

    public int renew(int key) {
        history.noteBefore(house);
        return history.settle(house.makeAnew(key));
    }

    public int throwKey(int key) {
        history.noteBefore(house);
        return history.settle(house.throwAway(KIND_KEY, key));
    }

    public int throwBox(int box) {
        history.noteBefore(house);
        return history.settle(house.throwAway(KIND_BOX, box));
    }

    // ---- what there is

    public int ofKey(int key, int what) {
        Tree tree = house.tree;
        if (!tree.hasKey(key)) {
            return NO_SUCH;
        }
        switch (what) {
            case 0: return tree.parentOf(key);
            case 1: return oneIf(tree.isLiveKey(key));
            case 2: return tree.makeOf(key);
            case 3: return tree.wearOf(key);
            case 4: return tree.liveKeysOn(setOf(key));
            case 5: return tree.liveBoxesOn(setOf(key));
            case 6: return Integer.bitCount(tree.above(key));
            default: return BAD_VALUE;
        }
    }

    public int ofBox(int box, int what) {
        Tree tree = house.tree;
        if (!tree.hasBox(box)) {
            return NO_SUCH;
        }
        switch (what) {
            case 0: return tree.keyOfBox(box);
            case 1: return oneIf(tree.isLiveBox(box));
            case 2: return oneIf(has(opening.boxesWith(house, NO_PLACES), box));
            case 3: return oneIf(has(opening.boxesWith(house, ALL_PLACES), box));
            default: return BAD_VALUE;
        }
    }

    public int wrap(int wrap, int what) {
        Wraps wraps = house.wraps;
        if (!wraps.isOne(wrap)) {
            return NO_SUCH;
        }
        switch (what) {
            case 0: return wraps.heldKey(wrap);
            case 1: return wraps.heldWhat(wrap);
            case 2: return wraps.closer(wrap);
            case 3: return wraps.closerMake(wrap);
            case 4: return oneIf(wraps.standsIn(wrap, IN_HOUSE));
            case 5: return wraps.placesOf(wrap);
            default: return BAD_VALUE;
        }
    }

    public int count(int what) {
        Tree tree = house.tree;
        switch (what) {
            case 0: return tree.keys;
            case 1: return Integer.bitCount(tree.liveKeys);
            case 2: return tree.boxes;
            case 3: return Integer.bitCount(tree.liveBoxes);
            case 4: return house.wraps.number;
            case 5: return house.wraps.standingIn(IN_HOUSE);
            case 6: return house.wraps.standingIn(ALL_PLACES);
            case 7: return tree.mostWear;
            case 8: return tree.wornKeys();
            case 9: return opening.boxesWith(house, NO_PLACES);
            case 10: return pad.length;
            case 11: return history.number;
            default: return BAD_VALUE;
        }
    }

    // ---- what can be opened

    public int canOpen(int box, int places) {
        if (!house.tree.hasBox(box)) {
            return NO_SUCH;
        }
        if (!arePlaces(places)) {
            return BAD_VALUE;
        }
        return oneIf(has(opening.boxesWith(house, places), box));
    }

    public int canHave(int key, int make, int places) {
        if (!house.tree.hasKey(key)) {
            return NO_SUCH;
        }
        if (make < 0 || !arePlaces(places)) {
            return BAD_VALUE;
        }
        return oneIf(opening.canHaveKey(house, key, make, places));
    }

    public int way(int box, int step) {
        if (!house.tree.isLiveBox(box)) {
            return NO_SUCH;
        }
        if (step < 0) {
            return BAD_VALUE;
        }
        return house.stepOfWay(box, step);
    }

    public int leaks(int root, int make, int places) {
        if (!house.tree.hasKey(root) || !house.tree.isRoot(root)) {
            return NO_SUCH;
        }
        if (make < 0 || !arePlaces(places)) {
            return BAD_VALUE;
        }
        return opening.boxesByLeak(house, root, make, places);
    }

    // ---- what if; nothing changes

    public int lostBy(int key) {
        Tree tree = house.tree;
        return tree.isLiveKey(key) ? tree.liveBoxesOn(tree.withAllBelow(key)) : NO_SUCH;
    }

    public int throwingMakes(int kind, int number) {
        return kind == KIND_KEY || kind == KIND_BOX ? house.wrapsByThrowing(kind, number) : BAD_VALUE;
    }

    public int mostWorn(int what) {
        if (what != 0 && what != 1) {
            return BAD_VALUE;
        }
        int key = house.tree.mostWornKey();
        return key == NONE || what == 0 ? key : house.tree.leftToClose(key);
    }

    // ---- texts

    public int put(long characters) {
        return pad.append(characters);
    }

    public int wipe() {
        return pad.clear();
    }

    public int fault() {
        return pad.findFault();
    }

    public int carryOut() {
        if (pad.findFault() != NONE) {
            return BAD_TEXT;
        }
        history.noteBefore(house);
        pad.startReading();
        int done = 0;
        while (done < MOST_CHARACTERS && pad.hasMore() && pad.readNext() && carryOutOrder() >= 0) {
            done++;
        }
        pad.clear();
        return history.settle(done);
    }

    private int carryOutOrder() {
        switch (pad.letter) {
            case 'k': return house.makeKey(pad.target);
            case 'b': return house.makeBox(pad.target);
            case 'r': return house.makeAnew(pad.target);
            case 'x': return house.throwAway(KIND_KEY, pad.target);
            case 'y': return house.throwAway(KIND_BOX, pad.target);
            default: return house.copyOut(pad.target, pad.place);
        }
    }

    // ---- undo, saving

    public int undo() {
        return history.stepBack(house);
    }

    public int save(int slot) {
        if (slot < 0 || slot >= slots.length) {
            return BAD_VALUE;
        }
        House saved = slots[slot];
        if (saved == null) {
            saved = new House();
            slots[slot] = saved;
        }
        saved.become(house);
        return house.tree.keys;
    }

    public int restore(int slot) {
        if (slot < 0 || slot >= slots.length) {
            return BAD_VALUE;
        }
        House saved = slots[slot];
        if (saved == null) {
            return NOT_POSSIBLE;
        }
        history.noteBefore(house);
        house.become(saved);
        return history.settle(house.tree.keys);
    }

    // ---- sets as bit masks

    private static int oneIf(boolean holds) {
        return holds ? 1 : 0;
    }

    private static int setOf(int member) {
        return member >= 0 && member < MEMBERS_OF_A_SET ? 1 << member : 0;
    }

    private static boolean has(int set, int member) {
        return member >= 0 && member < MEMBERS_OF_A_SET && (set >>> member & 1) != 0;
    }

    private static boolean arePlaces(int places) {
        return places >= 0 && places <= ALL_PLACES;
    }

    /** Numbers in a row: outside of it there is nothing to read (0) or to write. */
    private static final class Row {
        private final int[] cells;

        Row(int length) {
            cells = new int[Math.max(length, 0)];
        }

        int at(int index) {
            return index >= 0 && index < cells.length ? cells[index] : 0;
        }

        void set(int index, int value) {
            if (index >= 0 && index < cells.length) {
                cells[index] = value;
            }
        }

        void add(int index, int more) {
            if (index >= 0 && index < cells.length) {
                cells[index] += more;
            }
        }

        void fill(int value) {
            for (int i = 0; i < cells.length; i++) {
                cells[i] = value;
            }
        }

        void become(Row other) {
            if (other != null) {
                System.arraycopy(other.cells, 0, cells, 0, Math.min(cells.length, other.cells.length));
            }
        }
    }

    /**
     * The keys and the boxes, and what hangs from what.
     * A key is made after its parent: going up through the numbers of keys is going down from the root.
     */
    private static final class Tree {
        private int mostWear = FIRST_WEAR;
        private int keys = 0;
        private int boxes = 0;
        private int liveKeys = 0;
        private int liveBoxes = 0;
        private final Row parents = new Row(MOST_KEYS);
        private final Row makes = new Row(MOST_KEYS);
        private final Row wears = new Row(MOST_KEYS);
        private final Row keysOfBoxes = new Row(MOST_BOXES);

        boolean hasKey(int key) {
            return key >= 0 && key < keys;
        }

        boolean hasBox(int box) {
            return box >= 0 && box < boxes;
        }

        boolean isLiveKey(int key) {
            return has(liveKeys, key);
        }

        boolean isLiveBox(int box) {
            return has(liveBoxes, box);
        }

        boolean isLive(int kind, int number) {
            return kind == KIND_KEY ? isLiveKey(number) : isLiveBox(number);
        }

        boolean isRoot(int key) {
            return parents.at(key) == NONE;
        }

        int parentOf(int key) {
            return parents.at(key);
        }

        int makeOf(int key) {
            return makes.at(key);
        }

        int wearOf(int key) {
            return wears.at(key);
        }

        int keyOfBox(int box) {
            return keysOfBoxes.at(box);
        }

        int leftToClose(int key) {
            return Math.max(mostWear - wears.at(key), 0);
        }

        int above(int key) {
            int set = 0;
            int next = parents.at(key);
            for (int steps = 0; steps < MOST_KEYS && next >= 0; steps++) {
                set |= setOf(next);
                next = parents.at(next);
            }
            return set;
        }

        int aboveBox(int box) {
            int key = keysOfBoxes.at(box);
            return above(key) | setOf(key);
        }

        int aboveThat(int kind, int number) {
            return kind == KIND_KEY ? above(number) : aboveBox(number);
        }

        int withAllBelow(int key) {
            int set = setOf(key);
            for (int k = 0; k < keys; k++) {
                if (has(set, parents.at(k))) {
                    set |= setOf(k);
                }
            }
            return set;
        }

        int liveKeysOn(int keySet) {
            int set = 0;
            for (int k = 0; k < keys; k++) {
                if (has(keySet, parents.at(k))) {
                    set |= setOf(k);
                }
            }
            return set & liveKeys;
        }

        int liveBoxesOn(int keySet) {
            int set = 0;
            for (int b = 0; b < boxes; b++) {
                if (has(keySet, keysOfBoxes.at(b))) {
                    set |= setOf(b);
                }
            }
            return set & liveBoxes;
        }

        int wornKeys() {
            int set = 0;
            for (int k = 0; k < keys; k++) {
                if (leftToClose(k) == 0) {
                    set |= setOf(k);
                }
            }
            return set & liveKeys;
        }

        int mostWornKey() {
            int best = NONE;
            for (int k = 0; k < keys; k++) {
                if (isLiveKey(k) && (best == NONE || leftToClose(k) < leftToClose(best))) {
                    best = k;
                }
            }
            return best;
        }

        int addKey(int parent) {
            parents.set(keys, parent);
            makes.set(keys, 0);
            wears.set(keys, 0);
            liveKeys |= setOf(keys);
            keys++;
            return keys - 1;
        }

        int addBox(int key) {
            keysOfBoxes.set(boxes, key);
            liveBoxes |= setOf(boxes);
            boxes++;
            return boxes - 1;
        }

        void startNextMake(int key) {
            makes.add(key, 1);
            wears.set(key, 0);
        }

        void wearDown(int key) {
            wears.add(key, 1);
        }

        void endLife(int goneKeys, int goneBoxes) {
            liveKeys &= ~goneKeys;
            liveBoxes &= ~goneBoxes;
        }

        void become(Tree other) {
            if (other == null) {
                return;
            }
            mostWear = other.mostWear;
            keys = other.keys;
            boxes = other.boxes;
            liveKeys = other.liveKeys;
            liveBoxes = other.liveBoxes;
            parents.become(other.parents);
            makes.become(other.makes);
            wears.become(other.wears);
            keysOfBoxes.become(other.keysOfBoxes);
        }
    }

    /** All wraps that were ever made, also those that were burnt. */
    private static final class Wraps {
        private int number = 0;
        /** NONE for a wrap that holds a box. */
        private final Row heldKeys = new Row(MOST_WRAPS);
        private final Row heldWhats = new Row(MOST_WRAPS);
        private final Row closers = new Row(MOST_WRAPS);
        private final Row closerMakes = new Row(MOST_WRAPS);
        private final Row stands = new Row(MOST_WRAPS);

        boolean isOne(int wrap) {
            return wrap >= 0 && wrap < number;
        }

        boolean haveRoomFor(int more) {
            return number + more <= MOST_WRAPS;
        }

        int heldKey(int wrap) {
            return heldKeys.at(wrap);
        }

        int heldWhat(int wrap) {
            return heldWhats.at(wrap);
        }

        int closer(int wrap) {
            return closers.at(wrap);
        }

        int closerMake(int wrap) {
            return closerMakes.at(wrap);
        }

        boolean standsIn(int wrap, int places) {
            return (stands.at(wrap) & places) != 0;
        }

        int placesOf(int wrap) {
            return stands.at(wrap) & ALL_PLACES;
        }

        int standingIn(int places) {
            int sum = 0;
            for (int w = 0; w < number; w++) {
                sum += Integer.bitCount(stands.at(w) & places);
            }
            return sum;
        }

        boolean holdsMake(int wrap, int key, int make) {
            return heldKeys.at(wrap) == key && heldWhats.at(wrap) == make;
        }

        boolean holdsBox(int wrap, int box) {
            return heldKeys.at(wrap) == NONE && heldWhats.at(wrap) == box;
        }

        int inHouseWithKey(int key, int make) {
            for (int w = 0; w < number; w++) {
                if (standsIn(w, IN_HOUSE) && holdsMake(w, key, make)) {
                    return w;
                }
            }
            return NONE;
        }

        int inHouseWithBox(int box) {
            for (int w = 0; w < number; w++) {
                if (standsIn(w, IN_HOUSE) && holdsBox(w, box)) {
                    return w;
                }
            }
            return NONE;
        }

        void add(int heldKey, int heldWhat, int closer, int closerMake) {
            heldKeys.set(number, heldKey);
            heldWhats.set(number, heldWhat);
            closers.set(number, closer);
            closerMakes.set(number, closerMake);
            stands.set(number, IN_HOUSE);
            number++;
        }

        void standAlsoIn(int wrap, int place) {
            stands.set(wrap, stands.at(wrap) | setOf(place));
        }

        void burnHolding(int keySet, int boxSet) {
            for (int w = 0; w < number; w++) {
                boolean holdsOne = heldKeys.at(w) == NONE
                        ? has(boxSet, heldWhats.at(w))
                        : has(keySet, heldKeys.at(w));
                if (holdsOne) {
                    burn(w);
                }
            }
        }

        void burnOlderThan(int key, int make) {
            for (int w = 0; w < number; w++) {
                boolean holdsOlder = heldKeys.at(w) == key && heldWhats.at(w) < make;
                boolean closedByOlder = closers.at(w) == key && closerMakes.at(w) < make;
                if (holdsOlder || closedByOlder) {
                    burn(w);
                }
            }
        }

        private void burn(int wrap) {
            stands.set(wrap, stands.at(wrap) & ALL_PLACES);
        }

        void become(Wraps other) {
            if (other == null) {
                return;
            }
            number = other.number;
            heldKeys.become(other.heldKeys);
            heldWhats.become(other.heldWhats);
            closers.become(other.closers);
            closerMakes.become(other.closerMakes);
            stands.become(other.stands);
        }
    }

    /** Everything that undo and saving keep: the keys, the boxes and the wraps, and what changes them. */
    private static final class House {
        private final Tree tree = new Tree();
        private final Wraps wraps = new Wraps();

        int changeWear(int wear) {
            if (wear < LEAST_WEAR || wear > MOST_WEAR) {
                return BAD_VALUE;
            }
            int before = tree.mostWear;
            tree.mostWear = wear;
            return before;
        }

        int makeKey(int parent) {
            boolean root = parent == NONE;
            if (!root && !tree.isLiveKey(parent)) {
                return NO_SUCH;
            }
            if (tree.keys >= MOST_KEYS || !root && !wraps.haveRoomFor(1)) {
                return TOO_MANY;
            }
            if (!root && tree.leftToClose(parent) == 0) {
                return NOT_POSSIBLE;
            }
            int key = tree.addKey(parent);
            if (!root) {
                wrapKey(key);
            }
            return key;
        }

        int makeBox(int key) {
            if (!tree.isLiveKey(key)) {
                return NO_SUCH;
            }
            if (tree.boxes >= MOST_BOXES || !wraps.haveRoomFor(1)) {
                return TOO_MANY;
            }
            if (tree.leftToClose(key) == 0) {
                return NOT_POSSIBLE;
            }
            int box = tree.addBox(key);
            wrapBox(box);
            return box;
        }

        int copyOut(int wrap, int place) {
            if (!wraps.isOne(wrap)) {
                return NO_SUCH;
            }
            if (place < 0 || place >= PLACES) {
                return BAD_VALUE;
            }
            if (!wraps.standsIn(wrap, IN_HOUSE) || wraps.standsIn(wrap, setOf(place))) {
                return NOT_POSSIBLE;
            }
            wraps.standAlsoIn(wrap, place);
            return wraps.standingIn(setOf(place));
        }

        int makeAnew(int key) {
            if (!tree.isLiveKey(key)) {
                return NO_SUCH;
            }
            boolean root = tree.isRoot(key);
            int hanging = hangingWithout(setOf(key), 0, 0);
            int made = root ? hanging : hanging + 1;
            if (!wraps.haveRoomFor(made)) {
                return TOO_MANY;
            }
            if (!root && tree.leftToClose(tree.parentOf(key)) == 0 || hanging > tree.mostWear) {
                return NOT_POSSIBLE;
            }
            startNextMakes(setOf(key));
            if (!root) {
                wrapKey(key);
            }
            wrapAllOn(key);
            return made;
        }

        int throwAway(int kind, int number) {
            if (!tree.isLive(kind, number)) {
                return NO_SUCH;
            }
            int above = tree.aboveThat(kind, number);
            int goneKeys = kind == KIND_KEY ? tree.withAllBelow(number) : 0;
            int goneBoxes = kind == KIND_KEY ? tree.liveBoxesOn(goneKeys) : setOf(number);
            int made = hangingWithout(above, goneKeys, goneBoxes);
            if (!wraps.haveRoomFor(made)) {
                return TOO_MANY;
            }
            if (!canWrapAgain(above, goneKeys, goneBoxes)) {
                return NOT_POSSIBLE;
            }
            tree.endLife(goneKeys, goneBoxes);
            wraps.burnHolding(goneKeys, goneBoxes);
            startNextMakes(above);
            for (int k = 0; k < MOST_KEYS; k++) {
                if (has(above, k)) {
                    wrapAllOn(k);
                }
            }
            return made;
        }

        /** Only what hangs from the keys above is wrapped again: what hangs below a key plays no part. */
        int wrapsByThrowing(int kind, int number) {
            if (!tree.isLive(kind, number)) {
                return NO_SUCH;
            }
            int above = tree.aboveThat(kind, number);
            int goneKeys = kind == KIND_KEY ? setOf(number) : 0;
            int goneBoxes = kind == KIND_KEY ? 0 : setOf(number);
            return canWrapAgain(above, goneKeys, goneBoxes)
                    ? hangingWithout(above, goneKeys, goneBoxes)
                    : NOT_POSSIBLE;
        }

        private int hangingWithout(int keySet, int goneKeys, int goneBoxes) {
            return Integer.bitCount(tree.liveKeysOn(keySet) & ~goneKeys)
                    + Integer.bitCount(tree.liveBoxesOn(keySet) & ~goneBoxes);
        }

        private boolean canWrapAgain(int above, int goneKeys, int goneBoxes) {
            for (int k = 0; k < MOST_KEYS; k++) {
                if (has(above, k) && hangingWithout(setOf(k), goneKeys, goneBoxes) > tree.mostWear) {
                    return false;
                }
            }
            return true;
        }

        private void startNextMakes(int keySet) {
            for (int k = 0; k < MOST_KEYS; k++) {
                if (has(keySet, k)) {
                    tree.startNextMake(k);
                    wraps.burnOlderThan(k, tree.makeOf(k));
                }
            }
        }

        private void wrapAllOn(int key) {
            int keySet = tree.liveKeysOn(setOf(key));
            int boxSet = tree.liveBoxesOn(setOf(key));
            for (int k = 0; k < MOST_KEYS; k++) {
                if (has(keySet, k)) {
                    wrapKey(k);
                }
            }
            for (int b = 0; b < MOST_BOXES; b++) {
                if (has(boxSet, b)) {
                    wrapBox(b);
                }
            }
        }

        private void wrapKey(int key) {
            int parent = tree.parentOf(key);
            wraps.add(key, tree.makeOf(key), parent, tree.makeOf(parent));
            tree.wearDown(parent);
        }

        private void wrapBox(int box) {
            int key = tree.keyOfBox(box);
            wraps.add(NONE, box, key, tree.makeOf(key));
            tree.wearDown(key);
        }

        int stepOfWay(int box, int step) {
            int above = tree.aboveBox(box);
            int passed = 0;
            for (int k = 0; k < MOST_KEYS; k++) {
                if (!has(above, k) || tree.isRoot(k)) {
                    continue;
                }
                if (passed == step) {
                    return wraps.inHouseWithKey(k, tree.makeOf(k));
                }
                passed++;
            }
            return passed == step ? wraps.inHouseWithBox(box) : NONE;
        }

        void become(House other) {
            if (other == null) {
                return;
            }
            tree.become(other.tree);
            wraps.become(other.wraps);
        }
    }

    /** What can be had and opened: worked out anew for each question, on rows that are used again. */
    private static final class Opening {
        /** For each key the make that is had without a wrap, NONE if there is none. */
        private final Row startMakes = new Row(MOST_KEYS);
        private final Row opened = new Row(MOST_WRAPS);

        int boxesWith(House house, int places) {
            if (house == null) {
                return 0;
            }
            startFromSafe(house.tree);
            openAll(house.wraps, places | IN_HOUSE);
            return openedBoxes(house.wraps);
        }

        boolean canHaveKey(House house, int key, int make, int places) {
            if (house == null) {
                return false;
            }
            startFromSafe(house.tree);
            openAll(house.wraps, places | IN_HOUSE);
            return isHad(house.wraps, key, make);
        }

        int boxesByLeak(House house, int root, int make, int places) {
            if (house == null) {
                return 0;
            }
            startMakes.fill(NONE);
            startMakes.set(root, make);
            openAll(house.wraps, places);
            return openedBoxes(house.wraps);
        }

        private void startFromSafe(Tree tree) {
            startMakes.fill(NONE);
            for (int k = 0; k < MOST_KEYS; k++) {
                if (tree.isLiveKey(k) && tree.isRoot(k)) {
                    startMakes.set(k, tree.makeOf(k));
                }
            }
        }

        /** Keys come before what hangs from them, so that one passage is enough. */
        private void openAll(Wraps wraps, int atHand) {
            opened.fill(0);
            for (int k = 0; k < MOST_KEYS; k++) {
                openHolding(wraps, k, atHand);
            }
            openHolding(wraps, NONE, atHand);
        }

        private void openHolding(Wraps wraps, int heldKey, int atHand) {
            for (int w = 0; w < wraps.number; w++) {
                if (wraps.heldKey(w) == heldKey && wraps.standsIn(w, atHand)
                        && isHad(wraps, wraps.closer(w), wraps.closerMake(w))) {
                    opened.set(w, 1);
                }
            }
        }

        private boolean isHad(Wraps wraps, int key, int make) {
            if (startMakes.at(key) == make) {
                return true;
            }
            for (int w = 0; w < wraps.number; w++) {
                if (opened.at(w) != 0 && wraps.holdsMake(w, key, make)) {
                    return true;
                }
            }
            return false;
        }

        private int openedBoxes(Wraps wraps) {
            int set = 0;
            for (int w = 0; w < wraps.number; w++) {
                if (opened.at(w) != 0 && wraps.heldKey(w) == NONE) {
                    set |= setOf(wraps.heldWhat(w));
                }
            }
            return set;
        }
    }

    /** The states before the latest changes, in a ring with one state more, for a change that may yet fail. */
    private static final class History {
        private final House[] states = new House[MOST_STATES + 1];
        private int spare = 0;
        private int number = 0;

        History() {
            for (int i = 0; i < states.length; i++) {
                states[i] = new House();
            }
        }

        void noteBefore(House house) {
            House state = stateAt(spare);
            if (state != null) {
                state.become(house);
            }
        }

        /** Keeps the state that was noted unless the change answered an error. */
        int settle(int answer) {
            if (answer >= 0) {
                spare = spare >= MOST_STATES ? 0 : spare + 1;
                number = Math.min(number + 1, MOST_STATES);
            }
            return answer;
        }

        int stepBack(House house) {
            if (house == null || number <= 0) {
                return NOT_POSSIBLE;
            }
            spare = spare <= 0 ? MOST_STATES : spare - 1;
            number--;
            house.become(stateAt(spare));
            return number;
        }

        private House stateAt(int index) {
            return index >= 0 && index < states.length ? states[index] : null;
        }
    }

    /** The text, and how far it has been read. Where the reading stops for good is the fault. */
    private static final class Pad {
        private final Row signs = new Row(MOST_CHARACTERS);
        private int length = 0;
        private int next = 0;
        private int letter = 0;
        private int target = 0;
        private int place = 0;

        int append(long characters) {
            int more = charactersIn(characters);
            if (more <= 0) {
                return BAD_VALUE;
            }
            if (length + more > MOST_CHARACTERS) {
                return TOO_MANY;
            }
            for (int i = 0; i < more; i++) {
                signs.set(length + i, signFromRight(characters, more - 1 - i));
            }
            length += more;
            return length;
        }

        private static int signFromRight(long characters, int index) {
            return (int) (characters >>> 8 * index & 255);
        }

        /** How many characters the number gives, 0 also if it is not made as it should be. */
        private static int charactersIn(long characters) {
            for (int i = 0; i < MOST_CHARACTERS_PUT; i++) {
                int sign = signFromRight(characters, i);
                if (sign == 0) {
                    return characters >>> 8 * i == 0 ? i : 0;
                }
                if (sign < FIRST_SIGN || sign > LAST_SIGN) {
                    return 0;
                }
            }
            return MOST_CHARACTERS_PUT;
        }

        int clear() {
            int before = length;
            length = 0;
            return before;
        }

        int findFault() {
            startReading();
            for (int orders = 0; orders < MOST_CHARACTERS; orders++) {
                if (!readNext()) {
                    return next;
                }
                if (!hasMore()) {
                    return NONE;
                }
            }
            return next;
        }

        void startReading() {
            next = 0;
        }

        boolean hasMore() {
            return next < length;
        }

        boolean readNext() {
            return (next == 0 || skip(';')) && readOrder();
        }

        private boolean readOrder() {
            letter = nextSign();
            if (!isLetter(letter)) {
                return false;
            }
            next++;
            target = NONE;
            if (letter == 'k' && skip('-')) {
                return true;
            }
            return readNumber() && (letter != 'c' || skip('@') && readPlace());
        }

        /**
         * A digit that would make the number too high, or follow a leading zero, is left unread:
         * nothing that comes after a number takes a digit, so the fault is found there.
         */
        private boolean readNumber() {
            if (!isDigit(nextSign(), 9)) {
                return false;
            }
            target = 0;
            for (int digits = 0; digits < MOST_DIGITS && isDigit(nextSign(), 9); digits++) {
                int longer = 10 * target + nextSign() - '0';
                if (longer > HIGHEST_NUMBER || digits > 0 && target == 0) {
                    break;
                }
                target = longer;
                next++;
            }
            return true;
        }

        private boolean readPlace() {
            if (!isDigit(nextSign(), PLACES - 1)) {
                return false;
            }
            place = nextSign() - '0';
            next++;
            return true;
        }

        private boolean skip(int sign) {
            boolean there = nextSign() == sign;
            if (there) {
                next++;
            }
            return there;
        }

        /** 0, which no order takes, behind the end. */
        private int nextSign() {
            return hasMore() ? signs.at(next) : 0;
        }

        private static boolean isDigit(int sign, int highest) {
            return sign >= '0' && sign <= '0' + highest;
        }

        private static boolean isLetter(int sign) {
            switch (sign) {
                case 'k': case 'b': case 'r': case 'x': case 'y': case 'c': return true;
                default: return false;
            }
        }
    }
}
