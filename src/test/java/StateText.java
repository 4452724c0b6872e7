/** Everything that can be asked of a house except the pad and the history, as a text to compare. */
final class StateText {
    private StateText() {
    }

    static String of(HangingKeys x) {
        StringBuilder text = new StringBuilder();
        for (int what = 0; what < 10; what++) {
            text.append(x.count(what)).append(' ');
        }
        for (int k = 0; k < x.count(0); k++) {
            text.append("\nkey");
            for (int what = 0; what < 7; what++) {
                text.append(' ').append(x.ofKey(k, what));
            }
            for (int make = 0; make <= x.ofKey(k, 2); make++) {
                for (int places = 0; places < 8; places++) {
                    text.append(x.canHave(k, make, places));
                    text.append(' ').append(x.leaks(k, make, places));
                }
            }
            text.append(' ').append(x.lostBy(k)).append(' ').append(x.throwingMakes(0, k));
        }
        for (int b = 0; b < x.count(2); b++) {
            text.append("\nbox");
            for (int what = 0; what < 4; what++) {
                text.append(' ').append(x.ofBox(b, what));
            }
            for (int places = 0; places < 8; places++) {
                text.append(x.canOpen(b, places));
            }
            for (int step = 0; step < 21; step++) {
                text.append(' ').append(x.way(b, step));
            }
            text.append(' ').append(x.throwingMakes(1, b));
        }
        for (int w = 0; w < x.count(4); w++) {
            text.append("\nwrap");
            for (int what = 0; what < 6; what++) {
                text.append(' ').append(x.wrap(w, what));
            }
        }
        return text.append("\n").append(x.mostWorn(0)).append(' ').append(x.mostWorn(1)).toString();
    }
}
