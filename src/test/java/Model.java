import java.util.ArrayDeque;
import java.util.ArrayList;
import java.util.Deque;
import java.util.HashSet;
import java.util.List;
import java.util.Set;
import java.util.TreeSet;
import java.util.regex.Pattern;

/** The document once more, from the Java library's lists and sets, to compare answers with. */
final class Model {
    private static final int NO_SUCH = -1, BAD_VALUE = -2, BAD_TEXT = -3, TOO_MANY = -4, NOT_POSSIBLE = -5, NONE = -6;
    private static final String NUMBER = "(?:1[01][0-9]|[1-9][0-9]|[0-9])";
    private static final String ORDER =
            "(?:k(?:" + NUMBER + "|-)|[brxy]" + NUMBER + "|c" + NUMBER + "@[0-2])";
    private static final Pattern WHOLE = Pattern.compile(ORDER + "(?:;" + ORDER + ")*");
    private static final Pattern BEGINNING =
            Pattern.compile("(?:" + ORDER + ";)*(?:" + ORDER + "|[kbrxyc]?|c" + NUMBER + "@?)");

    private record Wrap(Thing held, int heldMake, Thing closer, int closerMake, boolean[] house, Set<Integer> places) {
    }

    private static final class Thing {
        final boolean isBox;
        final int number;
        final Thing parent;
        boolean live = true;
        int make = 0;
        int wear = 0;

        Thing(boolean isBox, int number, Thing parent) {
            this.isBox = isBox;
            this.number = number;
            this.parent = parent;
        }

        boolean isBelow(Thing other) {
            return parent != null && (parent == other || parent.isBelow(other));
        }
    }

    private static final class State {
        int limit = 8;
        final List<Thing> keys = new ArrayList<>();
        final List<Thing> boxes = new ArrayList<>();
        final List<Wrap> wraps = new ArrayList<>();

        State twin() {
            State twin = new State();
            twin.limit = limit;
            for (Thing key : keys) {
                twin.keys.add(twinOf(key, twin));
            }
            for (Thing box : boxes) {
                twin.boxes.add(twinOf(box, twin));
            }
            for (Wrap wrap : wraps) {
                Thing held = (wrap.held.isBox ? twin.boxes : twin.keys).get(wrap.held.number);
                twin.wraps.add(new Wrap(held, wrap.heldMake, twin.keys.get(wrap.closer.number), wrap.closerMake,
                        wrap.house.clone(), new TreeSet<>(wrap.places)));
            }
            return twin;
        }

        private static Thing twinOf(Thing thing, State twin) {
            Thing parent = thing.parent == null ? null : twin.keys.get(thing.parent.number);
            Thing copy = new Thing(thing.isBox, thing.number, parent);
            copy.live = thing.live;
            copy.make = thing.make;
            copy.wear = thing.wear;
            return copy;
        }
    }

    private State state = new State();
    private final Deque<State> past = new ArrayDeque<>();
    private final State[] slots = new State[2];
    private String pad = "";

    // ---- changes

    private int record(State before, int answer) {
        if (answer >= 0) {
            past.addLast(before);
            if (past.size() > 6) {
                past.removeFirst();
            }
        }
        return answer;
    }

    int wear(int wear) {
        State before = state.twin();
        if (wear < 2 || wear > 30) {
            return BAD_VALUE;
        }
        state.limit = wear;
        return record(before, before.limit);
    }

    int key(int parent) {
        return record(state.twin(), doKey(parent));
    }

    int box(int key) {
        return record(state.twin(), doBox(key));
    }

    int copy(int wrap, int place) {
        return record(state.twin(), doCopy(wrap, place));
    }

    int renew(int key) {
        return record(state.twin(), doRenew(key));
    }

    int throwKey(int key) {
        return record(state.twin(), doThrow(state.keys, key));
    }

    int throwBox(int box) {
        return record(state.twin(), doThrow(state.boxes, box));
    }

    private static Thing live(List<Thing> things, int number) {
        return number >= 0 && number < things.size() && things.get(number).live ? things.get(number) : null;
    }

    private boolean worn(Thing key) {
        return !(key.wear < state.limit);
    }

    private void close(Thing held) {
        held.parent.wear++;
        state.wraps.add(new Wrap(held, held.make, held.parent, held.parent.make, new boolean[] {true}, new TreeSet<>()));
    }

    private List<Thing> hangsFrom(Thing key) {
        List<Thing> list = new ArrayList<>();
        for (Thing other : state.keys) {
            if (other.live && other.parent == key) {
                list.add(other);
            }
        }
        for (Thing box : state.boxes) {
            if (box.live && box.parent == key) {
                list.add(box);
            }
        }
        return list;
    }

    private int doKey(int parent) {
        Thing above = live(state.keys, parent);
        if (above == null && parent != NONE) {
            return NO_SUCH;
        }
        if (state.keys.size() == 20 || above != null && state.wraps.size() == 120) {
            return TOO_MANY;
        }
        if (above != null && worn(above)) {
            return NOT_POSSIBLE;
        }
        Thing key = new Thing(false, state.keys.size(), above);
        state.keys.add(key);
        if (above != null) {
            close(key);
        }
        return key.number;
    }

    private int doBox(int key) {
        Thing above = live(state.keys, key);
        if (above == null) {
            return NO_SUCH;
        }
        if (state.boxes.size() == 20 || state.wraps.size() == 120) {
            return TOO_MANY;
        }
        if (worn(above)) {
            return NOT_POSSIBLE;
        }
        Thing box = new Thing(true, state.boxes.size(), above);
        state.boxes.add(box);
        close(box);
        return box.number;
    }

    private int doCopy(int wrap, int place) {
        if (wrap < 0 || wrap >= state.wraps.size()) {
            return NO_SUCH;
        }
        if (place < 0 || place > 2) {
            return BAD_VALUE;
        }
        Wrap it = state.wraps.get(wrap);
        if (!it.house[0] || it.places.contains(place)) {
            return NOT_POSSIBLE;
        }
        it.places.add(place);
        int there = 0;
        for (Wrap other : state.wraps) {
            there += other.places.contains(place) ? 1 : 0;
        }
        return there;
    }

    private void nextMake(Thing key) {
        key.make++;
        key.wear = 0;
        for (Wrap wrap : state.wraps) {
            if (wrap.held == key && wrap.heldMake != key.make || wrap.closer == key && wrap.closerMake != key.make) {
                wrap.house[0] = false;
            }
        }
    }

    private int doRenew(int number) {
        Thing key = live(state.keys, number);
        if (key == null) {
            return NO_SUCH;
        }
        List<Thing> again = new ArrayList<>();
        if (key.parent != null) {
            again.add(key);
        }
        again.addAll(hangsFrom(key));
        if (state.wraps.size() + again.size() > 120) {
            return TOO_MANY;
        }
        if (key.parent != null && worn(key.parent) || hangsFrom(key).size() > state.limit) {
            return NOT_POSSIBLE;
        }
        nextMake(key);
        for (Thing thing : again) {
            close(thing);
        }
        return again.size();
    }

    /** What would be wrapped again, from the root on down; null if some key above would close too many wraps. */
    private List<Thing> againWithout(Thing gone, boolean[] lacks) {
        List<Thing> path = new ArrayList<>();
        for (Thing key = gone.parent; key != null; key = key.parent) {
            path.add(0, key);
        }
        List<Thing> again = new ArrayList<>();
        for (Thing key : path) {
            List<Thing> hanging = hangsFrom(key);
            hanging.remove(gone);
            lacks[0] |= hanging.size() > state.limit;
            again.addAll(hanging);
        }
        return again;
    }

    private int doThrow(List<Thing> things, int number) {
        Thing gone = live(things, number);
        if (gone == null) {
            return NO_SUCH;
        }
        boolean[] lacks = {false};
        List<Thing> again = againWithout(gone, lacks);
        if (state.wraps.size() + again.size() > 120) {
            return TOO_MANY;
        }
        if (lacks[0]) {
            return NOT_POSSIBLE;
        }
        for (List<Thing> list : List.of(state.keys, state.boxes)) {
            for (Thing thing : list) {
                if (thing == gone || thing.isBelow(gone)) {
                    thing.live = false;
                }
            }
        }
        for (Wrap wrap : state.wraps) {
            if (!wrap.held.live) {
                wrap.house[0] = false;
            }
        }
        for (Thing key = gone.parent; key != null; key = key.parent) {
            nextMake(key);
        }
        for (Thing thing : again) {
            close(thing);
        }
        return again.size();
    }

    // ---- what there is

    int ofKey(int number, int what) {
        if (number < 0 || number >= state.keys.size()) {
            return NO_SUCH;
        }
        Thing key = state.keys.get(number);
        int keys = 0;
        int boxes = 0;
        for (Thing thing : hangsFrom(key)) {
            keys |= thing.isBox ? 0 : 1 << thing.number;
            boxes |= thing.isBox ? 1 << thing.number : 0;
        }
        int above = 0;
        for (Thing other : state.keys) {
            above += key.isBelow(other) ? 1 : 0;
        }
        int[] answers = {key.parent == null ? NONE : key.parent.number, key.live ? 1 : 0, key.make, key.wear,
            keys, boxes, above};
        return pick(answers, what);
    }

    int ofBox(int number, int what) {
        if (number < 0 || number >= state.boxes.size()) {
            return NO_SUCH;
        }
        Thing box = state.boxes.get(number);
        int[] answers = {box.parent.number, box.live ? 1 : 0, canOpen(number, 0), canOpen(number, 7)};
        return pick(answers, what);
    }

    int wrap(int number, int what) {
        if (number < 0 || number >= state.wraps.size()) {
            return NO_SUCH;
        }
        Wrap wrap = state.wraps.get(number);
        int places = 0;
        for (int place : wrap.places) {
            places += 1 << place;
        }
        int[] answers = {wrap.held.isBox ? NONE : wrap.held.number, wrap.held.isBox ? wrap.held.number : wrap.heldMake,
            wrap.closer.number, wrap.closerMake, wrap.house[0] ? 1 : 0, places};
        return pick(answers, what);
    }

    int count(int what) {
        int[] answers = {state.keys.size(), 0, state.boxes.size(), 0, state.wraps.size(), 0, 0, state.limit, 0, 0,
            pad.length(), past.size()};
        for (Thing key : state.keys) {
            answers[1] += key.live ? 1 : 0;
            answers[8] |= key.live && worn(key) ? 1 << key.number : 0;
        }
        for (Thing box : state.boxes) {
            answers[3] += box.live ? 1 : 0;
            answers[9] |= canOpen(box.number, 0) << box.number;
        }
        for (Wrap wrap : state.wraps) {
            answers[5] += wrap.house[0] ? 1 : 0;
            answers[6] += wrap.places.size();
        }
        return pick(answers, what);
    }

    private static int pick(int[] answers, int what) {
        return what < 0 || what >= answers.length ? BAD_VALUE : answers[what];
    }

    // ---- what can be opened

    private static boolean stands(Wrap wrap, boolean house, int places) {
        boolean at = house && wrap.house[0];
        for (int place : wrap.places) {
            at |= (places >> place & 1) == 1;
        }
        return at;
    }

    private static String name(Thing thing, int make) {
        return (thing.isBox ? "box " : "key ") + thing.number + " " + (thing.isBox ? 0 : make);
    }

    /** Round after round, until a round opens nothing more. */
    private Set<String> had(Set<String> start, boolean house, int places) {
        Set<String> had = new HashSet<>(start);
        boolean more = true;
        while (more) {
            more = false;
            for (Wrap wrap : state.wraps) {
                if (stands(wrap, house, places) && had.contains(name(wrap.closer, wrap.closerMake))) {
                    more |= had.add(name(wrap.held, wrap.heldMake));
                }
            }
        }
        return had;
    }

    private Set<String> hadFromSafe(int places) {
        Set<String> safe = new HashSet<>();
        for (Thing key : state.keys) {
            if (key.live && key.parent == null) {
                safe.add(name(key, key.make));
            }
        }
        return had(safe, true, places);
    }

    int canOpen(int number, int places) {
        if (number < 0 || number >= state.boxes.size()) {
            return NO_SUCH;
        }
        if (places < 0 || places > 7) {
            return BAD_VALUE;
        }
        return hadFromSafe(places).contains(name(state.boxes.get(number), 0)) ? 1 : 0;
    }

    int canHave(int number, int make, int places) {
        if (number < 0 || number >= state.keys.size()) {
            return NO_SUCH;
        }
        if (make < 0 || places < 0 || places > 7) {
            return BAD_VALUE;
        }
        return hadFromSafe(places).contains(name(state.keys.get(number), make)) ? 1 : 0;
    }

    int way(int number, int step) {
        Thing box = live(state.boxes, number);
        if (box == null) {
            return NO_SUCH;
        }
        if (step < 0) {
            return BAD_VALUE;
        }
        List<Integer> way = new ArrayList<>();
        for (Thing thing = box; thing.parent != null; thing = thing.parent) {
            int found = 0;
            for (Wrap wrap : state.wraps) {
                if (wrap.house[0] && wrap.held == thing) {
                    way.add(0, state.wraps.indexOf(wrap));
                    found++;
                }
            }
            if (found != 1) {
                throw new IllegalStateException("not one wrap in the house");
            }
        }
        return step < way.size() ? way.get(step) : NONE;
    }

    int leaks(int number, int make, int places) {
        if (number < 0 || number >= state.keys.size() || state.keys.get(number).parent != null) {
            return NO_SUCH;
        }
        if (make < 0 || places < 0 || places > 7) {
            return BAD_VALUE;
        }
        Set<String> had = had(Set.of(name(state.keys.get(number), make)), false, places);
        int set = 0;
        for (Thing box : state.boxes) {
            set |= had.contains(name(box, 0)) ? 1 << box.number : 0;
        }
        return set;
    }

    // ---- what if

    int lostBy(int number) {
        Thing key = live(state.keys, number);
        if (key == null) {
            return NO_SUCH;
        }
        int set = 0;
        for (Thing box : state.boxes) {
            set |= box.live && box.isBelow(key) ? 1 << box.number : 0;
        }
        return set;
    }

    int throwingMakes(int kind, int number) {
        if (kind != 0 && kind != 1) {
            return BAD_VALUE;
        }
        Thing gone = live(kind == 0 ? state.keys : state.boxes, number);
        if (gone == null) {
            return NO_SUCH;
        }
        boolean[] lacks = {false};
        int made = againWithout(gone, lacks).size();
        return lacks[0] ? NOT_POSSIBLE : made;
    }

    int mostWorn(int what) {
        if (what != 0 && what != 1) {
            return BAD_VALUE;
        }
        for (int left = 0; left <= 30; left++) {
            for (Thing key : state.keys) {
                if (key.live && Math.max(0, state.limit - key.wear) == left) {
                    return what == 0 ? key.number : left;
                }
            }
        }
        return NONE;
    }

    // ---- texts

    int put(long characters) {
        StringBuilder text = new StringBuilder();
        for (long rest = characters; rest != 0; rest >>>= 8) {
            long sign = rest & 255;
            if (sign < 33 || sign > 126) {
                return BAD_VALUE;
            }
            text.insert(0, (char) sign);
        }
        if (text.length() == 0) {
            return BAD_VALUE;
        }
        if (pad.length() + text.length() > 60) {
            return TOO_MANY;
        }
        pad += text;
        return pad.length();
    }

    int wipe() {
        int before = pad.length();
        pad = "";
        return before;
    }

    int fault() {
        if (WHOLE.matcher(pad).matches()) {
            return NONE;
        }
        for (int i = 0; i < pad.length(); i++) {
            if (!BEGINNING.matcher(pad.substring(0, i + 1)).matches()) {
                return i;
            }
        }
        return pad.length();
    }

    int carryOut() {
        if (!WHOLE.matcher(pad).matches()) {
            return BAD_TEXT;
        }
        State before = state.twin();
        int done = 0;
        for (String order : pad.split(";")) {
            if (carryOut(order) < 0) {
                break;
            }
            done++;
        }
        pad = "";
        return record(before, done);
    }

    private int carryOut(String order) {
        if (order.equals("k-")) {
            return doKey(NONE);
        }
        String[] numbers = order.substring(1).split("@");
        int number = Integer.parseInt(numbers[0]);
        return switch (order.charAt(0)) {
            case 'k' -> doKey(number);
            case 'b' -> doBox(number);
            case 'r' -> doRenew(number);
            case 'x' -> doThrow(state.keys, number);
            case 'y' -> doThrow(state.boxes, number);
            default -> doCopy(number, Integer.parseInt(numbers[1]));
        };
    }

    // ---- undo, saving

    int undo() {
        if (past.isEmpty()) {
            return NOT_POSSIBLE;
        }
        state = past.removeLast();
        return past.size();
    }

    int save(int slot) {
        if (slot != 0 && slot != 1) {
            return BAD_VALUE;
        }
        slots[slot] = state.twin();
        return state.keys.size();
    }

    int restore(int slot) {
        if (slot != 0 && slot != 1) {
            return BAD_VALUE;
        }
        if (slots[slot] == null) {
            return NOT_POSSIBLE;
        }
        State before = state;
        state = slots[slot].twin();
        return record(before, state.keys.size());
    }
}
