import java.util.ArrayList;
import java.util.List;
import java.util.function.ToIntFunction;

/**
 * A house whose calls are recorded: no test uses an object for more than the 512 calls that the document allows,
 * and another object in the same state can be had to ask more of it.
 */
final class Recorded {
    static final int MOST_CALLS = 512;

    private final HangingKeys keys = new HangingKeys();
    private final List<ToIntFunction<HangingKeys>> calls = new ArrayList<>();

    int calls() {
        return calls.size();
    }

    Recorded again() {
        Recorded twin = new Recorded();
        for (ToIntFunction<HangingKeys> call : calls) {
            twin.call(call);
        }
        return twin;
    }

    private int call(ToIntFunction<HangingKeys> call) {
        if (calls.size() >= MOST_CALLS) {
            throw new IllegalStateException("a test uses an object for more than " + MOST_CALLS + " calls");
        }
        calls.add(call);
        return call.applyAsInt(keys);
    }

    int wear(int wear) {
        return call(x -> x.wear(wear));
    }

    int key(int parent) {
        return call(x -> x.key(parent));
    }

    int box(int key) {
        return call(x -> x.box(key));
    }

    int copy(int wrap, int place) {
        return call(x -> x.copy(wrap, place));
    }

    int renew(int key) {
        return call(x -> x.renew(key));
    }

    int throwKey(int key) {
        return call(x -> x.throwKey(key));
    }

    int throwBox(int box) {
        return call(x -> x.throwBox(box));
    }

    int ofKey(int key, int what) {
        return call(x -> x.ofKey(key, what));
    }

    int ofBox(int box, int what) {
        return call(x -> x.ofBox(box, what));
    }

    int wrap(int wrap, int what) {
        return call(x -> x.wrap(wrap, what));
    }

    int count(int what) {
        return call(x -> x.count(what));
    }

    int canOpen(int box, int places) {
        return call(x -> x.canOpen(box, places));
    }

    int canHave(int key, int make, int places) {
        return call(x -> x.canHave(key, make, places));
    }

    int way(int box, int step) {
        return call(x -> x.way(box, step));
    }

    int leaks(int root, int make, int places) {
        return call(x -> x.leaks(root, make, places));
    }

    int lostBy(int key) {
        return call(x -> x.lostBy(key));
    }

    int throwingMakes(int kind, int number) {
        return call(x -> x.throwingMakes(kind, number));
    }

    int mostWorn(int what) {
        return call(x -> x.mostWorn(what));
    }

    int put(long characters) {
        return call(x -> x.put(characters));
    }

    int wipe() {
        return call(x -> x.wipe());
    }

    int fault() {
        return call(x -> x.fault());
    }

    int carryOut() {
        return call(x -> x.carryOut());
    }

    int undo() {
        return call(x -> x.undo());
    }

    int save(int slot) {
        return call(x -> x.save(slot));
    }

    int restore(int slot) {
        return call(x -> x.restore(slot));
    }

    /** Puts a text of any length, piece by piece, and answers what the last put answered. */
    int write(String text) {
        int answer = 0;
        for (int from = 0; from < text.length(); from += 8) {
            answer = put(Check.number(text.substring(from, Math.min(from + 8, text.length()))));
        }
        return answer;
    }

    /** Writes orders and carries them out. */
    int order(String text) {
        write(text);
        return carryOut();
    }
}
