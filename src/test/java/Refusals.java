/** Calls that are refused at the end of a scene: each answers as due, and changes nothing. */
final class Refusals {
    interface Call {
        long on(PromiseWire x);
    }

    private final Check check;
    private final Scene scene;
    private final String before;

    Refusals(Check check, Scene scene) {
        this.check = check;
        this.scene = scene;
        this.before = Seen.all(scene);
    }

    Refusals due(String name, long want, Call call) {
        check.due(name, call.on(scene.made()), want);
        Scene behind = x -> {
            scene.play(x);
            call.on(x);
        };
        check.isTrue(name + " changes nothing", Seen.all(behind).equals(before));
        return this;
    }

    Refusals bad(String name, Call call) {
        return due(name, PromiseWire.BAD, call);
    }

    Refusals state(String name, Call call) {
        return due(name, PromiseWire.STATE, call);
    }

    Refusals full(String name, Call call) {
        return due(name, PromiseWire.FULL, call);
    }
}
