import java.util.function.ToIntFunction;

/**
 * What can be asked of a house, as a text to compare. The questions are put to others in the same state,
 * each for no more calls than the document allows.
 */
final class StateText {
    private final Recorded house;
    private final StringBuilder text = new StringBuilder();
    private Recorded asked;

    private StateText(Recorded house) {
        this.house = house;
        asked = house.again();
    }

    /** Everything but the pad, the history and the slots. */
    static String of(Recorded house) {
        StateText state = new StateText(house);
        state.tellCounts();
        state.tellKeys();
        state.tellBoxes();
        state.tellWraps();
        return state.text.toString();
    }

    /** Everything: also the pad, all states that can be undone, and what the slots keep. */
    static String all(Recorded house) {
        StringBuilder all = new StringBuilder(of(house));
        Recorded back = house.again();
        all.append("\npad ").append(back.count(10)).append(' ').append(back.fault());
        all.append(" history ").append(back.count(11));
        for (int left = back.undo(); left >= 0; left = back.undo()) {
            all.append("\n\nundone, left are ").append(left).append('\n').append(of(back));
        }
        for (int slot = 0; slot < 2; slot++) {
            Recorded restored = house.again();
            all.append("\n\nslot ").append(slot).append(' ').append(restored.restore(slot));
            all.append('\n').append(of(restored));
        }
        return all.append("\n\ncarried out ").append(carriedOut(house)).toString();
    }

    /** What stands on the pad shows by what it does. */
    private static String carriedOut(Recorded house) {
        Recorded after = house.again();
        int done = after.carryOut();
        return done + "\n" + of(after);
    }

    private int ask(ToIntFunction<Recorded> question) {
        if (asked.calls() >= Recorded.MOST_CALLS) {
            asked = house.again();
        }
        return question.applyAsInt(asked);
    }

    private void tell(ToIntFunction<Recorded> question) {
        text.append(ask(question)).append(' ');
    }

    private void tellCounts() {
        for (int what = 0; what < 10; what++) {
            int which = what;
            tell(x -> x.count(which));
        }
        tell(x -> x.mostWorn(0));
        tell(x -> x.mostWorn(1));
    }

    private void tellKeys() {
        int keys = ask(x -> x.count(0));
        for (int k = 0; k < keys; k++) {
            int key = k;
            text.append("\nkey ");
            for (int what = 0; what < 7; what++) {
                int which = what;
                tell(x -> x.ofKey(key, which));
            }
            tellMakes(key, ask(x -> x.ofKey(key, 2)));
            tell(x -> x.lostBy(key));
            tell(x -> x.throwingMakes(0, key));
        }
    }

    /** The latest makes and the first one. */
    private void tellMakes(int key, int latest) {
        for (int make = latest; make >= 0; make = make > 3 && make < latest - 3 ? 0 : make - 1) {
            int which = make;
            for (int p = 0; p < 8; p++) {
                int places = p;
                tell(x -> x.canHave(key, which, places));
                tell(x -> x.leaks(key, which, places));
            }
        }
    }

    private void tellBoxes() {
        int boxes = ask(x -> x.count(2));
        for (int b = 0; b < boxes; b++) {
            int box = b;
            text.append("\nbox ");
            for (int what = 0; what < 4; what++) {
                int which = what;
                tell(x -> x.ofBox(box, which));
            }
            for (int p = 0; p < 8; p++) {
                int places = p;
                tell(x -> x.canOpen(box, places));
            }
            for (int s = 0; s < 21; s++) {
                int step = s;
                tell(x -> x.way(box, step));
            }
            tell(x -> x.throwingMakes(1, box));
        }
    }

    private void tellWraps() {
        int wraps = ask(x -> x.count(4));
        for (int w = 0; w < wraps; w++) {
            int wrap = w;
            text.append("\nwrap ");
            for (int what = 0; what < 6; what++) {
                int which = what;
                tell(x -> x.wrap(wrap, which));
            }
        }
    }
}
