/** All that can be seen of an object, as one text: two texts are equal if nothing has changed. */
final class Seen {
    private Seen() {
    }

    static String all(PromiseWire x) {
        StringBuilder text = new StringBuilder();
        for (int what = 0; what <= 8; what++) {
            text.append(x.count(what)).append(' ');
        }
        text.append(x.purses()).append(' ').append(x.trace());
        things(x, text);
        promises(x, text);
        wires(x, text);
        return text.toString();
    }

    private static void things(PromiseWire x, StringBuilder text) {
        for (int t = 0; t < x.count(0); t++) {
            text.append("\nthing");
            for (int what = 0; what <= 7; what++) {
                text.append(' ').append(x.about(t, what));
            }
        }
    }

    private static void promises(PromiseWire x, StringBuilder text) {
        for (int p = 0; p < x.count(1); p++) {
            text.append("\npromise");
            for (int what = 0; what <= 4; what++) {
                text.append(' ').append(x.promise(p, what));
            }
            for (int house = 0; house < 4; house++) {
                text.append(' ').append(x.state(p, house, 0));
                text.append(' ').append(x.state(p, house, 1));
            }
        }
    }

    private static void wires(PromiseWire x, StringBuilder text) {
        for (int wire = 0; wire < 16; wire++) {
            text.append("\nwire");
            for (int i = 0; i < x.wire(wire / 4, wire % 4); i++) {
                for (int what = 0; what <= 5; what++) {
                    text.append(' ').append(x.letter(wire / 4, wire % 4, i, what));
                }
                text.append(';');
            }
        }
    }
}
