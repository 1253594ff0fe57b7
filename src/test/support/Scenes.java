/** States of an object in which more than one test begins. */
final class Scenes {
    private static final int NONE = LaneStore.NONE;
    // Sought so that in few calls 398 come, few of which stand in the end.
    private static final int[] SEEDS = {2199, 609, 1377, 211, 2221, 705, 907, 539, 1377, 2221, 306, 1377, 2221, 1911,
        2221, 2016, 705, 1377, 1911, 539, 907, 1938, 1911, 1324, 705, 1911, 1377, 2221, 705};
    /** What the tasks of oneOfEach are. */
    static final int[] STATES = {0, 1, 2, 3, 4, 6, 6, 5};

    /** 0 WAITS, 1 is HELD, 2 RESTS, 3 is OUT (by 3), 4 is DONE, 5 and 6 are GONE, 7 is ASIDE; keys 10 .. 16. */
    static Probe oneOfEach() {
        Probe s = new Probe();
        s.does("put", 0, 0, 1, 10, NONE).does("put", 1, 0, 1, 11, 0);
        s.does("put", 2, 9, 1, 12, NONE).does("put", 2, 8, 1, 13, NONE).does("put", 2, 7, 1, 14, NONE);
        s.does("put", 3, 0, 1, 16, NONE).does("arrange", 0, 2, 1);
        // Lane 0 has its LIMIT out meanwhile.
        int token = s.taken(0, 0);
        s.failed(1, 2, 5);
        s.does("cancel", 5);
        s.taken(3, 3);
        s.completed(1, 4);
        s.does("back", 0, token);
        s.does("put", 3, 0, 1, 16, NONE).does("put", 3, 0, 1, 15, 6).does("cancel", 6);
        return s;
    }

    /** 398 have come, in 36 calls; TRIES 1, BAN 2. */
    static Probe almostAll() {
        Probe s = new Probe();
        s.does("rule", 4, 48).does("rule", 3, 1);
        for (int lane = 0; lane < 5; lane++) {
            s.does("arrange", lane, 1, 32);
        }
        for (int seed : SEEDS) {
            s.does("steps", seed, 60);
        }
        return s;
    }

    static int unusedKey(Probe s) {
        for (int key = 0; key < 10000; key++) {
            if (s.peek("keyed", key) == NONE && s.peek("strikes", key) == 0) {
                return key;
            }
        }
        return NONE;
    }
}
