/** All that can be seen at the end of a scene, as one text: equal texts, and nothing has changed. */
final class Seen {
    private Seen() {
    }

    /** What is seen at once, and what comes of it later (WHENS that wait are seen in no other way). */
    static String all(Scene scene) {
        StringBuilder text = new StringBuilder();
        now(scene, text);
        cuts(scene, text);
        now(scene.later(), text);
        return text.toString();
    }

    private static void now(Scene scene, StringBuilder text) {
        PromiseWire x = scene.made();
        for (int what = 0; what <= 8; what++) {
            text.append(x.count(what)).append(' ');
        }
        text.append(x.purses()).append(' ').append(x.trace());
        for (int t = 0; t < x.count(0); t++) {
            thing(scene.made(), t, text);
        }
        for (int p = 0; p < x.count(1); p++) {
            promise(scene.made(), p, text);
        }
        for (int wire = 0; wire < 16; wire++) {
            for (int what = 0; what <= 5; what++) {
                letters(scene.made(), wire / 4, wire % 4, what, text);
            }
        }
    }

    private static void thing(PromiseWire x, int t, StringBuilder text) {
        text.append("\nthing");
        for (int what = 0; what <= 7; what++) {
            text.append(' ').append(x.about(t, what));
        }
    }

    private static void promise(PromiseWire x, int p, StringBuilder text) {
        text.append("\npromise");
        for (int what = 0; what <= 4; what++) {
            text.append(' ').append(x.promise(p, what));
        }
        for (int house = 0; house < 4; house++) {
            text.append(' ').append(x.state(p, house, 0));
            text.append(' ').append(x.state(p, house, 1));
        }
    }

    private static void letters(PromiseWire x, int from, int to, int what, StringBuilder text) {
        text.append("\nletters");
        int letters = x.wire(from, to);
        for (int i = 0; i < letters; i++) {
            text.append(' ').append(x.letter(from, to, i, what));
        }
    }

    private static void cuts(Scene scene, StringBuilder text) {
        text.append("\ncuts");
        for (int a = 0; a < 4; a++) {
            for (int b = 0; b < 4; b++) {
                text.append(' ').append(scene.made().again(a, b));
            }
        }
    }
}
