/** Promises 1 and 23 to 53: of each question the last answer it has and the first it has not; asking changes nothing. */
public final class EdgesOfAnswers {
    private static final int NONE = LaneStore.NONE;
    private static final int LEAST = Integer.MIN_VALUE;
    private static final int MOST = Integer.MAX_VALUE;
    /** What is no number of anything. */
    private static final int[] FAR = {-1, LEAST, LEAST + 1, MOST - 1, MOST};

    public static void main(String[] args) {
        newObject();
        store();
        lane();
        task();
        rank();
        cause();
        worker();
        timer();
        waiting();
        keyed();
        resting();
        aside();
        ending();
        strikes();
        banned();
        waits();
        share();
        places();
        path();
        ahead();
        turnOf();
        bestLane();
        chain();
        lapse();
        safe();
        finish();
        empties();
        enough();
        hangs();
        spread();
        blamed();
        worst();
        log();
        askingChangesNothing();
        Probe.end(23, 53);
    }

    /** A question whose second argument is 0 .. top: none such beyond. */
    private static void noneBeyond(Probe s, String name, int first, int top) {
        for (int what : FAR) {
            s.none(name, first, what);
        }
        s.none(name, first, top + 1);
    }

    private static void newObject() {
        Probe.sentence(1, "Five lanes, open, empty.");
        Probe s = new Probe();
        for (int lane = 0; lane < 5; lane++) {
            s.is(0, "lane", lane, 2);
            s.is(0, "lane", lane, 5);
        }
        s.none("lane", 5, 2);
        s.none("lane", -1, 2);
        s.is(0, "store", 9);
        // Objects share nothing.
        Probe other = new Probe();
        other.does("put", 0, 0, 1, 1, NONE).does("rule", 0, 99).does("arrange", 0, 0, 9).does("steps", 1, 60);
        s.isLike(new Probe());
    }

    private static void store() {
        Probe.sentence(23, "NONE for others.");
        Probe s = Scenes.oneOfEach();
        s.none("store", 19);
        for (int what : FAR) {
            s.none("store", what);
        }
        Probe.sentence(23, "0 TICK, 1 .. 7 how many WAIT, are HELD, REST, are OUT, DONE, ASIDE, GONE, 8 how many came, 9 how many STAND");
        int[] want = {0, 1, 1, 1, 1, 1, 1, 2, 8, 4, 0, 4, 1, 8, 10, 2, 3, 32, 2};
        for (int what = 0; what < want.length; what++) {
            s.is(want[what], "store", what);
        }
        Probe.sentence(23, "10 how many were refused");
        s.refuses(-2, "take", 6);
        s.refuses(-3, "take", 3);
        s.is(2, "store", 10);
        // A NONE of take, a question without answer, a TASK that a STEP can't bring: none is refused.
        s.does("cancel", 0).changesNothing(NONE, "take", 0);
        s.changesNothing(NONE, "task", 99, 0);
        s.is(2, "store", 10);
        Probe.sentence(23, "11 the latest TOKEN, 12 LANES that are LIVE, 13 .. 18 the rules");
        Probe t = new Probe();
        for (int lane = 0; lane < 5; lane++) {
            t.is(lane, "store", 12);
            t.does("put", lane, 0, 1, lane, NONE);
        }
        t.is(5, "store", 12);
        for (int lane = 0; lane < 5; lane++) {
            t.is(lane, "store", 11);
            t.does("take", lane).is(4 - lane, "store", 12);
        }
        t.does("done", 0, 1).is(5, "store", 11);
    }

    private static void lane() {
        Probe.sentence(24, "NONE when there is none such, or for others.");
        Probe s = Scenes.oneOfEach();
        for (int lane = 0; lane < 5; lane++) {
            noneBeyond(s, "lane", lane, 9);
        }
        s.none("lane", 5, 0);
        for (int lane : FAR) {
            s.none("lane", lane, 0);
        }
        Probe.sentence(24, "6 SIZE of all that was TAKEN of it, 7 how often one was, 8 LIMIT, 9 how many are OUT");
        Probe t = new Probe();
        t.does("put", 2, 0, 20, 1, NONE);
        for (int n = 1; n <= 3; n++) {
            int token = t.taken(0, 0);
            t.is(20 * n, "lane", 2, 6);
            t.is(n, "lane", 2, 7);
            t.is(1, "lane", 2, 9);
            t.does("back", 0, token).is(0, "lane", 2, 9);
            t.is(20 * n, "lane", 2, 6);
        }
        // What was TAKEN stays with the LANE it was TAKEN of.
        t.does("move", 0, 3).is(60, "lane", 2, 6);
        t.is(0, "lane", 3, 6);
        t.is(0, "lane", 2, 5);
        t.is(1, "lane", 3, 5);
    }

    private static void task() {
        Probe.sentence(25, "NONE when there is none such, or for others.");
        Probe s = Scenes.oneOfEach();
        for (int task = 0; task < 8; task++) {
            noneBeyond(s, "task", task, 12);
        }
        s.none("task", 8, 0);
        for (int task : FAR) {
            s.none("task", task, 0);
        }
        Probe.sentence(25, "8 DUE (RESTING; else NONE), 9 its WORKER (OUT; else NONE), 10 TOKEN (OUT; else NONE), 11 ENDS (OUT; else NONE), 12 when it was DONE (NONE)");
        for (int task = 0; task < 8; task++) {
            int state = Scenes.STATES[task];
            s.is(state == 2 ? 2 : NONE, "task", task, 8);
            s.is(state == 3 ? 3 : NONE, "task", task, 9);
            s.is(state == 3 ? 3 : NONE, "task", task, 10);
            s.is(state == 3 ? 10 : NONE, "task", task, 11);
            s.is(state == 4 ? 0 : NONE, "task", task, 12);
        }
        // It was OUT, then RESTED: nothing of that is told when it WAITS again.
        s.does("fail", 3, 3, 1).none("task", 3, 11);
        s.none("task", 3, 9);
        s.does("tick", 2).none("task", 3, 8);
        s.none("task", 2, 8);
    }

    private static void rank() {
        Probe.sentence(26, "-10 to the 6 when there is none such");
        Probe s = new Probe();
        s.is(-1000000, "rank", 0);
        for (int task : FAR) {
            s.is(-1000000, "rank", task);
        }
        s.does("put", 0, 0, 1, 1, NONE).is(0, "rank", 0);
        s.is(-1000000, "rank", 1);
        Probe.sentence(26, "RANK of a TASK");
        Probe t = Scenes.oneOfEach();
        int[] priority = {0, 0, 9, 8, 7, 0, 0, 0};
        for (int task = 0; task < 8; task++) {
            t.is(8 * priority[task], "rank", task);
        }
        // As low as 510 calls can bring it.
        Probe late = new Probe();
        for (int i = 0; i < 500; i++) {
            late.does("tick", 99);
        }
        late.does("put", 0, 0, 1, 1, NONE).is(-49500, "rank", 0);
        late.does("put", 0, 9, 1, 2, NONE).is(72 - 49500, "rank", 1);
    }

    private static void cause() {
        Probe.sentence(27, "NONE when there is none such.");
        Probe s = Scenes.oneOfEach();
        s.none("cause", 8, NONE);
        for (int task : FAR) {
            s.none("cause", task, NONE);
            s.none("cause", task, 0);
        }
        s.is(0, "cause", 0, NONE);
        s.none("cause", 0, 0);
        s.is(1, "cause", 2, NONE);
        s.is(5, "cause", 2, 0);
        s.none("cause", 2, 1);
        s.none("cause", 2, -2);
        s.none("cause", 2, LEAST);
        s.none("cause", 2, MOST);
        s.is(101, "cause", 7, 0);
        Probe.sentence(27, "how many (k NONE), the k-th (the first 20 are kept, no more are counted)");
        Probe t = new Probe();
        t.does("rule", 3, 1).does("rule", 5, 9).does("put", 0, 0, 1, 1, NONE);
        for (int n = 1; n <= 22; n++) {
            t.failed(0, 0, n);
            t.is(Math.min(n, 20), "cause", 0, NONE);
            t.is(n <= 20 ? n : NONE, "cause", 0, n - 1);
            t.none("cause", 0, n);
            t.is(1, "cause", 0, 0);
            if (n % 8 == 0) {
                t.does("pardon", 1);
            }
            t.does("again", 0);
        }
        t.is(20, "cause", 0, 19);
        Probe.sentence(27, "one for each time it FAILED or went ASIDE by 100, 101");
        // One that FAILS at last has one CAUSE by that, not two; one that RESTS, too; one that is GONE has none.
        Probe u = new Probe();
        u.does("rule", 3, 2).does("put", 0, 0, 1, 1, NONE).does("put", 0, 0, 1, 2, 0);
        u.failed(0, 0, 7);
        u.does("tick", 2);
        u.failed(0, 0, 8);
        u.is(2, "cause", 0, NONE);
        u.is(1, "cause", 1, NONE);
        u.does("again", 0).does("again", 1).does("cancel", 0).is(2, "cause", 0, NONE);
        u.is(2, "cause", 1, NONE);
        u.is(100, "cause", 1, 0);
        u.is(101, "cause", 1, 1);
    }

    private static void worker() {
        Probe.sentence(28, "NONE when there is none such, or for others.");
        Probe s = Scenes.oneOfEach();
        for (int worker = 0; worker < 6; worker++) {
            noneBeyond(s, "worker", worker, 5);
        }
        s.none("worker", 6, 3);
        for (int worker : FAR) {
            s.none("worker", worker, 3);
        }
        Probe.sentence(28, "0 its TASK, 1 TOKEN, 2 ENDS (each NONE without)");
        for (int what = 0; what < 3; what++) {
            s.none("worker", 0, what);
            s.none("worker", 5, what);
            s.is(what == 2 ? 10 : 3, "worker", 3, what);
        }
        Probe.sentence(28, "3 how many it TOOK, 4 were DONE, 5 FAILED (by CAUSE 0, too)");
        int[][] want = {{1, 0, 0}, {2, 1, 1}, {0, 0, 0}, {1, 0, 0}, {0, 0, 0}, {0, 0, 0}};
        for (int worker = 0; worker < 6; worker++) {
            for (int what = 0; what < 3; what++) {
                s.is(want[worker][what], "worker", worker, 3 + what);
            }
        }
        s.does("hand", 3, 3, 4).does("tick", 10);
        s.is(0, "worker", 3, 5);
        s.is(1, "worker", 4, 5);
        s.is(0, "worker", 4, 3);
    }

    private static void timer() {
        Probe.sentence(29, "NONE when there is none such, or for others.");
        Probe s = new Probe();
        s.none("timer", 0, 0);
        for (int i = 0; i < 12; i++) {
            s.does("every", 4, 9, 20, 9999, 99);
            noneBeyond(s, "timer", i, 7);
            s.none("timer", i + 1, 0);
        }
        for (int timer : FAR) {
            s.none("timer", timer, 0);
        }
        int[] want = {4, 9, 20, 9999, 99, 0, 0, 99};
        for (int what = 0; what < 8; what++) {
            s.is(want[what], "timer", 0, what);
            s.is(want[what], "timer", 11, what);
        }
        Probe.sentence(29, "5 how many came, 6 were SKIPPED, 7 the TICK when it is time next (NONE: it is stopped)");
        s.does("tick", 98).is(99, "timer", 0, 7);
        s.does("tick", 1).is(198, "timer", 0, 7);
        s.is(1, "timer", 0, 5);
        s.is(0, "timer", 0, 6);
        s.is(0, "timer", 11, 5);
        s.is(1, "timer", 11, 6);
        s.does("stop", 0).none("timer", 0, 7);
        s.is(99, "timer", 0, 4);
        s.is(1, "timer", 0, 5);
    }

    private static void waiting() {
        Probe.sentence(30, "The k-th of a LANE's TASKS that WAIT, FIRST ahead. NONE when there is none such.");
        Probe s = new Probe();
        s.none("waiting", 0, 0);
        s.does("rule", 4, 48).does("arrange", 0, 1, 32);
        for (int i = 0; i < 32; i++) {
            s.does("put", 0, i % 10, 1, i, NONE);
        }
        for (int k = 0; k < 32; k++) {
            // By PRIORITY: 9, 9, 9, .. , 1, 1, 1, 1, 0, 0, 0, 0; of each by numbers.
            int priority = k < 24 ? 9 - k / 3 : k < 28 ? 1 : 0;
            int nth = k < 24 ? k % 3 : k % 4;
            s.is(priority + 10 * nth, "waiting", 0, k);
        }
        s.none("waiting", 0, 32);
        for (int k : FAR) {
            s.none("waiting", 0, k);
        }
        for (int lane : FAR) {
            s.none("waiting", lane, 0);
        }
        s.none("waiting", 5, 0);
        s.none("waiting", 1, 0);
        Probe each = Scenes.oneOfEach();
        each.is(0, "waiting", 0, 0);
        each.none("waiting", 0, 1);
        each.none("waiting", 1, 0);
        each.none("waiting", 2, 0);
        each.none("waiting", 3, 0);
    }

    private static void keyed() {
        Probe.sentence(31, "The TASK that STANDS with a KEY. NONE when there is none such.");
        Probe s = Scenes.oneOfEach();
        int[] want = {0, 1, 2, 3, NONE, NONE, NONE};
        for (int i = 0; i < want.length; i++) {
            s.is(want[i], "keyed", 10 + i);
        }
        s.none("keyed", 9);
        s.none("keyed", 17);
        s.none("keyed", 10000);
        for (int key : FAR) {
            s.none("keyed", key);
        }
        s.does("put", 4, 0, 1, 0, NONE).does("put", 4, 0, 1, 9999, NONE).is(8, "keyed", 0);
        s.is(9, "keyed", 9999);
        // Of several with that KEY the one that STANDS.
        s.does("put", 4, 0, 1, 16, NONE).is(10, "keyed", 16);
    }

    private static void resting() {
        Probe.sentence(32, "The k-th of those that REST, the least DUE ahead, of like ones by numbers. NONE when there is none such.");
        Probe s = new Probe();
        s.none("resting", 0);
        for (int i = 0; i < 5; i++) {
            s.does("put", 0, 9 - i, 1, i, NONE).does("take", i);
        }
        s.does("rule", 2, 3).does("fail", 4, 5, 1).does("fail", 2, 3, 1);
        s.does("rule", 2, 2).does("fail", 3, 4, 1).does("fail", 1, 2, 1);
        int[] want = {1, 3, 2, 4};
        for (int k = 0; k < want.length; k++) {
            s.is(want[k], "resting", k);
        }
        s.none("resting", 4);
        for (int k : FAR) {
            s.none("resting", k);
        }
        s.does("tick", 1).is(1, "resting", 0);
        s.does("tick", 1).is(2, "resting", 0);
        s.is(4, "resting", 1);
        s.none("resting", 2);
        s.does("tick", 1).none("resting", 0);
    }

    private static void aside() {
        Probe.sentence(33, "The k-th of those ASIDE, as they went there. NONE when there is none such.");
        Probe s = new Probe();
        s.none("aside", 0);
        s.does("rule", 3, 1);
        for (int i = 0; i < 5; i++) {
            s.does("put", 0, 9 - i, 1, i, NONE).does("take", i);
        }
        int[] order = {3, 0, 4, 1, 2};
        for (int k = 0; k < order.length; k++) {
            s.none("aside", k);
            s.does("fail", order[k], order[k] + 1, 1).is(order[k], "aside", k);
        }
        s.none("aside", 5);
        for (int k : FAR) {
            s.none("aside", k);
        }
        // The first, the last, one between go.
        s.does("discard", 3).does("again", 2).does("discard", 4);
        s.is(0, "aside", 0);
        s.is(1, "aside", 1);
        s.none("aside", 2);
        // One that goes there anew is the last.
        s.does("again", 0);
        int first = s.peek("ahead", 0) == 0 ? 0 : 2;
        s.failed(0, first, 1);
        s.is(1, "aside", 0);
        s.is(first, "aside", 1);
    }

    private static void ending() {
        Probe.sentence(34, "The k-th of those that are OUT, the least ENDS ahead, of like ones by numbers. NONE when there is none such.");
        Probe s = new Probe();
        s.none("ending", 0);
        for (int i = 0; i < 7; i++) {
            s.does("put", 0, i, 1, i, NONE);
        }
        // The greater number is TAKEN ahead of the lesser one.
        for (int i = 0; i < 6; i++) {
            s.is(6 - i, "take", i);
        }
        for (int k = 0; k < 6; k++) {
            s.is(k + 1, "ending", k);
        }
        s.none("ending", 6);
        for (int k : FAR) {
            s.none("ending", k);
        }
        // By a BEAT it is the last, by what is DONE it is not there.
        s.does("tick", 1).does("beat", 5, 6).is(2, "ending", 0);
        s.is(1, "ending", 5);
        s.does("done", 5, 6).is(6, "ending", 4);
        s.none("ending", 5);
        s.does("back", 0, 1).is(5, "ending", 3);
        s.none("ending", 4);
        s.does("tick", 9).none("ending", 0);
    }

    private static void strikes() {
        Probe.sentence(35, "STRIKES of a KEY; NONE when there is none such.");
        Probe s = new Probe();
        s.none("strikes", 10000);
        for (int key : FAR) {
            s.none("strikes", key);
        }
        s.is(0, "strikes", 0);
        s.is(0, "strikes", 9999);
        s.does("rule", 3, 1).does("rule", 5, 9);
        for (int key : new int[] {0, 9999}) {
            int task = (int) s.peek("store", 8);
            s.does("put", 0, 0, 1, key, NONE);
            for (int n = 1; n <= 8; n++) {
                s.failed(0, task, 1);
                s.is(n, "strikes", key);
                s.does("again", task);
            }
            s.is(8, "strikes", key);
            s.does("cancel", task).is(8, "strikes", key);
        }
        s.is(0, "strikes", 1);
        s.is(0, "strikes", 9998);
    }

    private static void banned() {
        Probe.sentence(36, "The k-th KEY that is BANNED, rising. NONE when there is none such.");
        Probe s = new Probe();
        s.none("banned", 0);
        s.does("rule", 3, 1).does("rule", 5, 1);
        int[] keys = {500, 9999, 0, 499, 501, 1, 9998};
        for (int i = 0; i < keys.length; i++) {
            s.does("put", 0, 0, 1, keys[i], NONE);
            s.failed(0, i, 1);
        }
        int[] rising = {0, 1, 499, 500, 501, 9998, 9999};
        for (int k = 0; k < rising.length; k++) {
            s.is(rising[k], "banned", k);
        }
        s.none("banned", 7);
        for (int k : FAR) {
            s.none("banned", k);
        }
        s.does("pardon", 0).does("pardon", 500).does("pardon", 9999);
        int[] left = {1, 499, 501, 9998, NONE};
        for (int k = 0; k < left.length; k++) {
            s.is(left[k], "banned", k);
        }
        s.does("rule", 5, 2).none("banned", 0);
    }

    private static void waits() {
        Probe.sentence(37, "0 together, 1 the most, 2 the TASK, the first of like ones (NONE: none was). NONE when there is none such, or for others.");
        Probe s = new Probe();
        for (int lane = 0; lane < 5; lane++) {
            s.is(0, "waits", lane, 0);
            s.none("waits", lane, 1);
            s.none("waits", lane, 2);
            noneBeyond(s, "waits", lane, 2);
        }
        s.none("waits", 5, 0);
        for (int lane : FAR) {
            s.none("waits", lane, 0);
        }
        // One that is TAKEN as it comes waits 0 TICKS: that is the most then.
        Probe t = new Probe();
        t.does("put", 0, 0, 1, 1, NONE).does("take", 0).is(0, "waits", 0, 0);
        t.is(0, "waits", 0, 1);
        t.is(0, "waits", 0, 2);
        t.does("put", 0, 0, 1, 2, NONE).does("take", 1).is(0, "waits", 0, 2);
        t.does("put", 0, 0, 1, 3, NONE).does("tick", 1).does("take", 2).is(2, "waits", 0, 2);
        t.is(1, "waits", 0, 0);
        t.is(1, "waits", 0, 1);
        Probe.sentence(37, "TICKS from CAME till TAKEN of all that were TAKEN of a LANE (it is that of then; each time)");
        t.does("back", 2, 3).does("take", 2).is(2, "waits", 0, 0);
        t.does("back", 2, 4).does("move", 2, 1).does("tick", 1).does("take", 2);
        t.is(2, "waits", 0, 0);
        t.is(2, "waits", 1, 0);
        t.is(2, "waits", 1, 1);
        t.is(2, "waits", 1, 2);
        // One that CAME at 2 and is TAKEN at 2, at 3: none, one TICK.
        t.does("put", 4, 0, 1, 9, NONE).does("take", 3).is(0, "waits", 4, 1);
        t.does("back", 3, 6).does("tick", 1).does("take", 3).is(1, "waits", 4, 1);
        t.is(1, "waits", 4, 0);
    }

    private static void share() {
        Probe.sentence(38, "0 SIZE of all that was TAKEN of it, in thousandths of that of all LANES, cut (0, if none was)");
        Probe s = new Probe();
        for (int lane = 0; lane < 5; lane++) {
            s.is(0, "share", lane, 0);
            noneBeyond(s, "share", lane, 4);
        }
        s.none("share", 5, 0);
        for (int lane : FAR) {
            s.none("share", lane, 0);
        }
        s.does("put", 0, 0, 1, 1, NONE).does("take", 0).is(1000, "share", 0, 0);
        s.is(0, "share", 1, 0);
        s.does("put", 1, 0, 20, 2, NONE).does("take", 1).is(47, "share", 0, 0);
        s.is(952, "share", 1, 0);
        Probe.sentence(38, "1 its WEIGHT in thousandths of WEIGHTS of all, cut");
        s.is(200, "share", 0, 1);
        s.does("arrange", 0, 0, 9).is(692, "share", 0, 1);
        s.is(76, "share", 1, 1);
        for (int lane = 1; lane < 5; lane++) {
            s.does("arrange", lane, 0, 9);
        }
        s.is(200, "share", 4, 1);
        s.does("arrange", 4, 0, 1).is(27, "share", 4, 1);
        s.is(243, "share", 0, 1);
        Probe.sentence(38, "3 the TASK that WAITS there since the least CAME, of like ones the least number (NONE: none WAITS), 4 SIZES of those that WAIT there together");
        Probe t = Scenes.oneOfEach();
        t.is(0, "share", 0, 3);
        t.is(1, "share", 0, 4);
        for (int lane = 1; lane < 5; lane++) {
            t.none("share", lane, 3);
            t.is(0, "share", lane, 4);
        }
        t.does("put", 4, 0, 20, 90, NONE).does("put", 4, 9, 19, 91, NONE).does("tick", 1);
        t.does("put", 4, 9, 18, 92, NONE);
        t.is(8, "share", 4, 3);
        t.is(57, "share", 4, 4);
        t.does("cancel", 8).is(9, "share", 4, 3);
        t.does("cancel", 9).is(10, "share", 4, 3);
        t.is(18, "share", 4, 4);
    }

    private static void places() {
        Probe.sentence(38, "2 how many more could come to it now (0, if it is not OPEN; by ROOM, 400 in all)");
        Probe s = new Probe();
        s.is(12, "share", 0, 2);
        s.does("arrange", 0, 1, 32).is(32, "share", 0, 2);
        s.does("rule", 4, 31).is(31, "share", 0, 2);
        s.does("arrange", 0, 1, 1).is(1, "share", 0, 2);
        s.does("put", 0, 0, 1, 1, NONE).is(0, "share", 0, 2);
        s.is(12, "share", 1, 2);
        s.does("put", 1, 0, 1, 2, NONE).does("put", 1, 0, 1, 3, NONE).is(10, "share", 1, 2);
        // Less ROOM than STAND: none, not fewer than that.
        s.does("arrange", 1, 1, 1).is(0, "share", 1, 2);
        s.does("rule", 4, 4).is(1, "share", 2, 2);
        s.does("rule", 4, 3).is(0, "share", 2, 2);
        s.does("rule", 4, 1).is(0, "share", 2, 2);
        s.does("rule", 4, 48).is(12, "share", 2, 2);
        s.does("drain", 2).is(0, "share", 2, 2);
        s.does("open", 2).is(12, "share", 2, 2);
        s.does("arrange", 1, 1, 9).is(7, "share", 1, 2);
        s.does("drain", 1).is(0, "share", 1, 2);
        Probe all = Scenes.almostAll();
        int key = Scenes.unusedKey(all);
        all.is(2, "share", 0, 2);
        all.does("put", 0, 0, 1, key, NONE).is(1, "share", 0, 2);
        all.does("arrange", 1, 1, 1).is(0, "share", 1, 2);
        all.does("put", 0, 0, 1, key + 1, NONE).is(0, "share", 0, 2);
    }

    private static void path() {
        Probe.sentence(39, "whatever they are (0: itself). NONE when there is none such.");
        Probe s = Scenes.oneOfEach();
        for (int task = 0; task < 8; task++) {
            s.is(task, "path", task, 0);
            for (int k : FAR) {
                s.none("path", task, k);
            }
            s.none("path", task, 2);
            s.is(task == 1 ? 0 : task == 7 ? 6 : NONE, "path", task, 1);
        }
        s.none("path", 8, 0);
        for (int task : FAR) {
            s.none("path", task, 0);
        }
        s.does("put", 4, 0, 1, 90, 4).is(4, "path", 8, 1);
    }

    private static void ahead() {
        Probe.sentence(40, "The k-th TAKEN ON. NONE when there is none such.");
        Probe s = Scenes.oneOfEach();
        s.is(0, "ahead", 0);
        s.none("ahead", 1);
        for (int k : FAR) {
            s.none("ahead", k);
        }
        s.does("cancel", 0).none("ahead", 0);
        new Probe().none("ahead", 0);
        // A PASS is paid for each, as it is TAKEN ON: 0 (7560), 2 (2520), 3 (5040), 4 (7560), 1, 5.
        Probe t = new Probe();
        t.does("put", 0, 1, 3, 0, NONE).does("put", 0, 0, 1, 1, NONE);
        for (int i = 2; i < 6; i++) {
            t.does("put", 1, 0, 1, i, NONE);
        }
        int[] want = {0, 2, 3, 4, 1, 5, NONE};
        for (int k = 0; k < want.length; k++) {
            t.is(want[k], "ahead", k);
        }
    }

    private static void turnOf() {
        Probe.sentence(41, "How many are TAKEN ON ahead of a TASK that WAITS. NONE when it doesn't, or there is none such.");
        Probe s = Scenes.oneOfEach();
        s.is(0, "turnOf", 0);
        for (int task = 1; task <= 8; task++) {
            s.none("turnOf", task);
        }
        for (int task : FAR) {
            s.none("turnOf", task);
        }
        Probe full = new Probe();
        full.does("rule", 4, 48).does("arrange", 0, 1, 32).does("arrange", 1, 1, 32).does("arrange", 0, 2, 1);
        for (int i = 0; i < 48; i++) {
            full.does("put", i / 32, 0, 1, i, NONE);
        }
        // In turns till lane 1 has none any more.
        full.is(0, "turnOf", 0);
        full.is(1, "turnOf", 32);
        full.is(31, "turnOf", 47);
        full.is(32, "turnOf", 16);
        full.is(47, "turnOf", 31);
        full.is(31, "ahead", 47);
        full.none("ahead", 48);
        aloneInALaneOfLessPass().is(0, "turnOf", 0);
    }

    /** 0 WAITS alone in lane 1 (PASS 0), 2 in lane 0 (PASS 2520), which is full: it comes to no LANE anew, so it keeps its PASS. */
    private static Probe aloneInALaneOfLessPass() {
        Probe s = new Probe();
        s.does("put", 1, 0, 1, 1, NONE).does("put", 0, 0, 1, 2, NONE).does("put", 0, 0, 1, 3, NONE);
        s.is(1, "take", 0);
        s.does("arrange", 0, 1, 2).is(0, "lane", 1, 3);
        s.is(2520, "lane", 0, 3);
        return s;
    }

    private static void bestLane() {
        Probe.sentence(42, "NONE when it does not WAIT, there is none such, or for others.");
        Probe s = Scenes.oneOfEach();
        s.is(0, "bestLane", 0, 0);
        s.is(0, "bestLane", 0, 1);
        noneBeyond(s, "bestLane", 0, 1);
        for (int task = 1; task <= 8; task++) {
            s.none("bestLane", task, 0);
            s.none("bestLane", task, 1);
        }
        for (int task : FAR) {
            s.none("bestLane", task, 0);
        }
        Probe.sentence(42, "(its own, or one to which it could be moved)");
        Probe t = new Probe();
        t.does("put", 4, 9, 1, 1, NONE).does("put", 4, 0, 1, 2, NONE).does("put", 0, 9, 1, 3, NONE);
        // In lanes 1, 2, 3 it would be behind 2 alone; in 0 and 4 behind 2 and 0.
        t.is(1, "bestLane", 1, 0);
        t.is(1, "bestLane", 1, 1);
        t.does("drain", 1).is(2, "bestLane", 1, 0);
        t.does("arrange", 2, 1, 1).does("put", 2, 0, 1, 4, NONE).is(3, "bestLane", 1, 0);
        t.is(2, "bestLane", 1, 1);
        t.does("arrange", 3, 1, 1).does("rule", 4, 1).is(3, "bestLane", 1, 0);
        // Lane 0 has ROOM, and is like its own; then it has none.
        t.does("drain", 3).is(0, "bestLane", 1, 0);
        t.is(3, "bestLane", 1, 1);
        t.does("arrange", 0, 1, 1).is(4, "bestLane", 1, 0);
        t.is(3, "bestLane", 1, 1);
        t.does("drain", 4).is(4, "bestLane", 1, 0);
        Probe.sentence(42, "the LANE, the first of like ones (what 0), how many ahead of it then (1)");
        Probe alone = new Probe();
        alone.does("put", 3, 0, 1, 1, NONE).is(0, "bestLane", 0, 0);
        alone.is(0, "bestLane", 0, 1);
        alone.does("drain", 0).is(1, "bestLane", 0, 0);
        alone.is(3, "task", 0, 0);
        // The first of all, in a LANE that has paid much: in the other one it would be the first.
        Probe first = new Probe();
        first.does("put", 0, 9, 20, 1, NONE).does("put", 1, 0, 1, 2, NONE).does("put", 1, 0, 1, 3, NONE);
        first.does("take", 0).does("back", 0, 1).is(2, "turnOf", 0);
        first.is(1, "bestLane", 0, 0);
        first.is(0, "bestLane", 0, 1);
        first.does("arrange", 1, 1, 2).is(2, "bestLane", 0, 0);
        first.is(1, "bestLane", 0, 1);
        // Its own is the best: it does not leave it. In 2, 3, 4 it would be lifted, and be behind 2.
        Probe own = aloneInALaneOfLessPass();
        own.is(1, "bestLane", 0, 0);
        own.is(0, "bestLane", 0, 1);
        own.does("move", 0, 2).is(1, "turnOf", 0);
    }

    private static void chain() {
        Probe.sentence(43, "as long as these are not DONE: 0 SIZES together, 1 how many. NONE when there is none such, or for others.");
        Probe s = new Probe();
        s.none("chain", 0, 0);
        s.does("put", 0, 9, 20, 1, NONE).does("put", 0, 0, 19, 2, 0).does("put", 0, 0, 18, 3, 1);
        int[] sizes = {20, 39, 57};
        for (int task = 0; task < 3; task++) {
            s.is(sizes[task], "chain", task, 0);
            s.is(task + 1, "chain", task, 1);
            noneBeyond(s, "chain", task, 1);
        }
        s.none("chain", 3, 0);
        for (int task : FAR) {
            s.none("chain", task, 0);
        }
        s.completed(0, 0);
        s.is(37, "chain", 2, 0);
        s.is(2, "chain", 2, 1);
        s.completed(0, 1);
        s.is(18, "chain", 2, 0);
        s.is(1, "chain", 2, 1);
    }

    private static void lapse() {
        Probe.sentence(44, "Were there n TICKS (1 .. 99), nobody doing anything");
        Probe s = Scenes.oneOfEach();
        for (int n : new int[] {0, 100, -1, LEAST, MOST}) {
            for (int what = 0; what < 3; what++) {
                s.none("lapse", n, what);
            }
        }
        noneBeyond(s, "lapse", 1, 2);
        noneBeyond(s, "lapse", 99, 2);
        Probe.sentence(44, "0 how many would FAIL, 1 go ASIDE (with those BEHIND them), 2 WAIT again behind RESTING. NONE for others.");
        // 3 ENDS at 10, RESTS till 12; 2 is DUE at 2.
        int[][] want = {{1, 0, 0, 0}, {2, 0, 0, 1}, {9, 0, 0, 1}, {10, 1, 0, 1}, {11, 1, 0, 1}, {12, 1, 0, 2}, {99, 1, 0, 2}};
        for (int[] w : want) {
            for (int what = 0; what < 3; what++) {
                s.is(w[1 + what], "lapse", w[0], what);
            }
        }
        // As the TICKS themselves show: at 12 both WAIT again, beside 0.
        s.twin().does("tick", 12).is(3, "store", 1);
        Probe t = new Probe();
        t.does("rule", 3, 1).does("put", 0, 9, 1, 1, NONE).does("put", 0, 0, 1, 2, 0).does("put", 0, 0, 1, 3, 1);
        t.does("put", 1, 0, 1, 4, NONE).does("put", 1, 0, 1, 5, 3).does("take", 0);
        int[][] aside = {{9, 0, 0, 0}, {10, 1, 3, 0}, {99, 1, 3, 0}};
        for (int[] w : aside) {
            for (int what = 0; what < 3; what++) {
                t.is(w[1 + what], "lapse", w[0], what);
            }
        }
        t.does("rule", 3, 2).is(0, "lapse", 99, 1);
        t.is(1, "lapse", 12, 2);
        t.is(0, "lapse", 11, 2);
    }

    private static void safe() {
        Probe.sentence(45, "NONE when it does not WAIT, or there is none such.");
        Probe s = Scenes.oneOfEach();
        s.is(72, "safe", 0);
        for (int task = 1; task <= 8; task++) {
            s.none("safe", task);
        }
        for (int task : FAR) {
            s.none("safe", task);
        }
    }

    private static void finish() {
        Probe.sentence(46, "in how many TICKS (what 0; 0: none STANDS)");
        Probe s = new Probe();
        for (int w = 1; w <= 6; w++) {
            s.is(0, "finish", w, 0);
            s.is(NONE, "finish", w, 1);
            s.is(0, "finish", w, 2);
            noneBeyond(s, "finish", w, 2);
        }
        for (int what = 0; what < 3; what++) {
            s.none("finish", 0, what);
            s.none("finish", 7, what);
            for (int w : FAR) {
                s.none("finish", w, what);
            }
        }
        Probe.sentence(46, "which is DONE last, of like ones the greatest number (1; NONE: none is)");
        Probe t = new Probe();
        t.does("put", 0, 0, 5, 1, NONE).does("put", 1, 0, 5, 2, NONE).does("put", 2, 9, 4, 3, NONE);
        t.is(2, "finish", 1, 1);
        t.is(2, "finish", 2, 1);
        t.is(1, "finish", 3, 1);
        // OUT, it is DONE now.
        Probe out = new Probe();
        out.does("put", 0, 0, 5, 1, NONE).does("take", 0).is(0, "finish", 1, 0);
        out.is(0, "finish", 1, 1);
        out.does("done", 0, 1).none("finish", 1, 1);
        Probe.sentence(46, "how many TICKS in which some WORKER has none, one for each of them, ahead of the end (2)");
        // One: 14. Two: 0, 1 (0-5), 2 (5-9): 4. Three: 2 has 1 TICK less. Six: three more, 5 TICKS each.
        int[] ticks = {14, 9, 5, 5, 5, 5};
        int[] idle = {0, 4, 1, 6, 11, 16};
        for (int w = 1; w <= 6; w++) {
            t.is(ticks[w - 1], "finish", w, 0);
            t.is(idle[w - 1], "finish", w, 2);
        }
        t.does("arrange", 0, 2, 1).does("put", 0, 0, 1, 4, NONE);
        // Lane 0 by its LIMIT: 0 (0-5), 3 (5-6).
        t.is(6, "finish", 6, 0);
        t.is(36 - 15, "finish", 6, 2);
        // The same from a later TICK on, and till one that RESTS is DUE.
        t.does("tick", 50).is(6, "finish", 6, 0);
        t.is(21, "finish", 6, 2);
        t.does("rule", 2, 9).does("put", 3, 9, 2, 5, NONE).does("cancel", 0).does("cancel", 1).does("cancel", 2);
        t.does("cancel", 3);
        t.failed(0, 4, 1);
        t.does("tick", 4).is(5 + 2, "finish", 1, 0);
        t.is(5, "finish", 1, 2);
        t.is(7, "empties", 3, 1);
    }

    private static void empties() {
        Probe.sentence(47, "in how many TICKS none STANDS in a LANE any more (0: none does, or all are OUT). NONE when there is none such, or w can't be.");
        Probe s = new Probe();
        for (int lane = 0; lane < 5; lane++) {
            for (int w = 1; w <= 6; w++) {
                s.is(0, "empties", lane, w);
            }
            s.none("empties", lane, 0);
            s.none("empties", lane, 7);
            for (int w : FAR) {
                s.none("empties", lane, w);
            }
        }
        s.none("empties", 5, 1);
        for (int lane : FAR) {
            s.none("empties", lane, 1);
        }
        Probe t = new Probe();
        t.does("put", 0, 0, 20, 1, NONE).is(20, "empties", 0, 1);
        t.does("take", 0).is(0, "empties", 0, 1);
        t.does("put", 0, 0, 1, 2, 0).is(1, "empties", 0, 1);
        t.does("put", 4, 0, 3, 3, 1).is(4, "empties", 4, 6);
        t.is(1, "empties", 0, 6);
        t.does("done", 0, 1).does("take", 0).is(0, "empties", 0, 1);
        t.is(3, "empties", 4, 1);
        // One that RESTS is there till it is DUE, and its SIZE.
        t.does("fail", 0, 2, 1).is(3, "empties", 0, 1);
        t.is(6, "empties", 4, 1);
        // Out of a LANE that DRAINS, too.
        t.does("drain", 0).is(3, "empties", 0, 1);
        t.is(1, "lane", 0, 2);
    }

    private static void enough() {
        Probe.sentence(48, "The fewest WORKERS by which FINISH is in n TICKS or less. NONE: by none; n is below 0.");
        Probe s = new Probe();
        s.is(1, "enough", 0);
        s.is(1, "enough", MOST);
        s.none("enough", -1);
        s.none("enough", LEAST);
        for (int i = 0; i < 6; i++) {
            s.does("put", i % 5, 0, 10, i, NONE);
        }
        int[][] want = {{60, 1}, {59, 2}, {30, 2}, {29, 3}, {20, 3}, {19, 6}, {10, 6}, {9, NONE}, {0, NONE}, {-1, NONE}};
        for (int[] w : want) {
            s.is(w[1], "enough", w[0]);
        }
        s.none("enough", LEAST);
        s.is(1, "enough", MOST);
        // A seventh: not in 10 by six, as there are no more.
        s.does("put", 4, 0, 10, 9, NONE).none("enough", 19);
        s.is(4, "enough", 20);
    }

    private static void hangs() {
        Probe.sentence(49, "How many HANG on a TASK. NONE when there is none such.");
        Probe s = new Probe();
        s.none("hangs", 0);
        s.does("put", 0, 0, 1, 0, NONE).is(0, "hangs", 0);
        s.none("hangs", 1);
        for (int task : FAR) {
            s.none("hangs", task);
        }
        for (int i = 1; i < 12; i++) {
            s.does("put", 0, 0, 1, i, i - 1).is(i, "hangs", 0);
        }
        s.is(0, "hangs", 11);
        s.is(1, "hangs", 10);
    }

    private static void spread() {
        Probe.sentence(50, "NONE for others, or when none is LIVE.");
        Probe s = new Probe();
        for (int what = -1; what <= 3; what++) {
            s.none("spread", what);
        }
        s.does("put", 2, 0, 1, 1, NONE).is(0, "spread", 0);
        s.is(2, "spread", 1);
        s.is(2, "spread", 2);
        s.none("spread", 3);
        for (int what : FAR) {
            s.none("spread", what);
        }
        s.does("take", 0).none("spread", 0);
        s.none("spread", 1);
        s.none("spread", 2);
        Probe.sentence(50, "1, 2: the LANE of the greatest, of the least, of like ones the first");
        Probe t = new Probe();
        for (int i = 0; i < 10; i++) {
            t.does("put", i % 5, 0, i % 5 == 0 || i % 5 == 4 ? 2 : 1, i, NONE);
        }
        t.is(0, "spread", 1);
        t.is(0, "spread", 2);
        for (int i = 0; i < 5; i++) {
            t.does("take", i);
        }
        // 5040, 2520, 2520, 2520, 5040.
        t.is(0, "spread", 1);
        t.is(1, "spread", 2);
        t.is(2520, "spread", 0);
        t.does("cancel", 5).is(4, "spread", 1);
    }

    private static void blamed() {
        Probe.sentence(51, "CAUSES of those that are ASIDE (the latest of each): how many have a CAUSE (0 .. 101). NONE for others.");
        Probe s = new Probe();
        s.none("blamed", 102);
        for (int cause : FAR) {
            s.none("blamed", cause);
        }
        for (int cause = 0; cause <= 101; cause++) {
            s.is(0, "blamed", cause);
        }
        Probe t = new Probe();
        t.does("rule", 3, 1).does("put", 0, 9, 1, 0, NONE).does("put", 0, 9, 1, 1, NONE).does("put", 0, 9, 1, 2, NONE);
        t.does("put", 1, 0, 1, 3, NONE).does("put", 1, 0, 1, 4, 3).does("put", 1, 0, 1, 5, 4);
        t.does("take", 0).is(3, "take", 1);
        t.does("back", 1, 2).does("cancel", 3);
        t.is(1, "blamed", 101);
        t.is(1, "blamed", 100);
        t.does("tick", 10).is(1, "blamed", 0);
        t.failed(0, 1, 1);
        t.failed(0, 2, 99);
        t.is(1, "blamed", 1);
        t.is(1, "blamed", 99);
        t.none("blamed", 102);
        t.none("blamed", -1);
        // The latest of each.
        t.does("again", 2);
        t.is(0, "blamed", 99);
        t.failed(0, 2, 1);
        t.is(0, "blamed", 99);
        t.is(2, "blamed", 1);
        // Those that are no more ASIDE have none.
        t.does("discard", 2).is(1, "blamed", 1);
        // One that FAILED, but RESTS, has none either.
        t.does("rule", 3, 9).does("put", 0, 0, 1, 50, NONE);
        t.failed(0, 6, 77);
        t.is(0, "blamed", 77);
    }

    private static void worst() {
        Probe.sentence(52, "The CAUSE that most of those ASIDE have, of like ones the least. NONE when none is ASIDE.");
        Probe s = new Probe();
        s.none("worst");
        s.does("put", 0, 0, 1, 1, NONE).does("put", 0, 0, 1, 2, 0).does("put", 0, 0, 1, 3, 1).does("cancel", 0);
        // 101 and 100, one each; 101 alone.
        s.is(100, "worst");
        s.does("discard", 2).is(101, "worst");
        s.does("rule", 3, 1).does("put", 0, 0, 1, 4, NONE);
        s.failed(0, 3, 99);
        s.is(99, "worst");
        s.does("put", 0, 0, 1, 5, NONE);
        s.taken(0, 4);
        s.does("tick", 10).is(0, "worst");
        s.does("put", 0, 0, 1, 6, NONE);
        s.failed(0, 5, 99);
        s.is(99, "worst");
        s.does("discard", 5).does("discard", 3).does("discard", 4).is(101, "worst");
        s.does("discard", 1).none("worst");
    }

    private static void log() {
        Probe.sentence(53, "-2 when there is none such, or for others.");
        Probe s = new Probe();
        s.is(-2, "log", 0, 0);
        s.does("put", 3, 0, 1, 1, NONE);
        int[] want = {0, 0, 0, 3, NONE, 0};
        for (int what = 0; what < 6; what++) {
            s.is(want[what], "log", 0, what);
            s.is(-2, "log", 1, what);
            for (int k : FAR) {
                s.is(-2, "log", k, what);
            }
        }
        s.is(-2, "log", 0, 6);
        for (int what : FAR) {
            s.is(-2, "log", 0, what);
        }
        Probe.sentence(53, "Of THE LOG, the k-th line ago (0 the latest)");
        s.does("take", 5).is(1, "log", 0, 1);
        s.is(0, "log", 1, 1);
        s.is(-2, "log", 2, 1);
        // What is refused, a BEAT, what is HANDED, another PRIORITY, rule, WEIGHT, a TICK have no line.
        s.refuses(-3, "take", 5);
        s.does("beat", 5, 1).does("hand", 5, 1, 0).does("put", 0, 0, 1, 2, NONE).does("raise", 1, 5);
        s.does("rule", 0, 9).does("arrange", 0, 0, 2).does("tick", 1).does("drain", 4).does("open", 4);
        s.does("every", 0, 0, 1, 3, 9).does("stop", 0);
        s.is(1, "log", 0, 2);
        s.is(0, "log", 0, 1);
        s.is(-2, "log", 3, 0);
    }

    private static void askingChangesNothing() {
        Probe.sentence(0, "---- what is there.");
        Probe s = Scenes.oneOfEach();
        s.does("every", 0, 0, 1, 90, 7);
        String[] one = {"store", "rank", "keyed", "resting", "aside", "ending", "strikes", "banned"};
        String[] two = {"lane", "task", "cause", "worker", "timer", "waiting", "waits", "share", "path"};
        ask(s, one, two);
        Probe.sentence(0, "---- what would be.");
        String[] oneOfWould = {"ahead", "turnOf", "safe", "enough", "hangs", "spread", "blamed"};
        String[] twoOfWould = {"bestLane", "chain", "lapse", "finish", "empties", "log"};
        ask(s, oneOfWould, twoOfWould);
        askedOfFewer();
        Probe before = s.twin();
        s.ask("worst");
        s.isLike(before);
    }

    /** What would be of many leaves nothing behind for what would be of few. */
    private static void askedOfFewer() {
        Probe s = new Probe();
        for (int i = 0; i < 8; i++) {
            s.does("put", i % 2, i, 3, i, NONE);
        }
        for (int left = 8; left > 0; left--) {
            // Of the greatest PRIORITY first, the lanes in turns.
            int even = (left - 1) / 2 * 2;
            int odd = left / 2 * 2 - 1;
            for (int k = 0; k <= 8; k++) {
                s.is(k >= left ? NONE : k % 2 == 0 ? even - k : odd - k + 1, "ahead", k);
            }
            s.is(3 * left, "finish", 1, 0);
            s.is(even, "ahead", 0);
            s.is((left + 1) / 2 * 3, "finish", 2, 0);
            s.is(even, "ahead", 0);
            s.is(0, "turnOf", even);
            // The one that would be next goes.
            s.does("cancel", left - 1);
        }
        s.is(0, "finish", 1, 0);
        s.none("ahead", 0);
    }

    /** Asked with what can be and with what can't: an object behind all that is like one that was not asked. */
    private static void ask(Probe s, String[] ofOne, String[] ofTwo) {
        int[] first = {LEAST, -1, 0, 1, 3, 6, MOST};
        for (String name : ofOne) {
            Probe t = s.twin();
            for (int a : first) {
                t.ask(name, a);
            }
            t.isLike(s);
        }
        for (String name : ofTwo) {
            Probe t = s.twin();
            for (int a : first) {
                for (int b : new int[] {LEAST, -1, 0, 1, 2, 5, MOST}) {
                    t.ask(name, a, b);
                }
            }
            t.isLike(s);
        }
    }
}
