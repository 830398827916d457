/**
 * A run of calls, played on a new object as often as a test looks at its end: an object is promised
 * for 512 calls alone, and looking at all of it takes more.
 */
interface Scene {
    void play(PromiseWire x);

    default PromiseWire made() {
        PromiseWire x = new PromiseWire();
        play(x);
        return x;
    }

    /** This scene, and behind it what flows when nobody holds it up. */
    default Scene later() {
        return x -> {
            play(x);
            for (int i = 0; i < 6; i++) {
                x.flow(100);
            }
        };
    }
}
