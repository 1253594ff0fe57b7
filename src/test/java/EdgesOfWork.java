/** Promises 2 to 22: of each call what it just does, what it just refuses, and that the refused changes nothing. */
public final class EdgesOfWork {
    private static final int NONE = LaneStore.NONE;
    private static final int LEAST = Integer.MIN_VALUE;
    private static final int MOST = Integer.MAX_VALUE;
    private static final int WAITS = 0;
    private static final int HELD = 1;
    private static final int RESTS = 2;
    private static final int OUT = 3;

    public static void main(String[] args) {
        put();
        putOfSeveral();
        take();
        tokens();
        done();
        fail();
        beat();
        back();
        hand();
        every();
        stop();
        tick();
        drain();
        open();
        cancel();
        move();
        raise();
        again();
        againOfSeveral();
        discard();
        arrange();
        rule();
        ruleLater();
        pardon();
        steps();
        stepsRefuseNothing();
        Probe.end(2, 22);
    }

    private static void put() {
        Probe.sentence(2, "A TASK comes (behind NONE: none): its number");
        Probe s = new Probe();
        s.is(0, "put", 0, 0, 1, 0, NONE);
        s.none("task", 0, 4);
        s.is(1, "put", 4, 9, 20, 9999, 0);
        s.is(2, "store", 8);
        // One that comes is the next whatever was refused, and whatever is no more.
        s.refuses(-5, "put", 0, 0, 1, 0, NONE);
        s.does("cancel", 0).is(2, "put", 0, 0, 1, 0, NONE);
        Probe.sentence(2, "-2 (behind: no such TASK, or GONE, too)");
        s.refuses(-2, "put", 0, 0, 1, 5, 3);
        s.refuses(-2, "put", 0, 0, 1, 5, -2);
        s.refuses(-2, "put", 0, 0, 1, 5, LEAST);
        s.refuses(-2, "put", 0, 0, 1, 5, MOST);
        s.refuses(-2, "put", 0, 0, 1, 5, 0);
        Probe.sentence(2, "-3 (the LANE is not OPEN, or the one BEHIND is ASIDE)");
        s.refuses(-3, "put", 0, 0, 1, 5, 1);
        s.does("discard", 1);
        s.refuses(-2, "put", 0, 0, 1, 5, 1);
        s.does("drain", 0);
        s.is(1, "lane", 0, 2);
        s.refuses(-3, "put", 0, 0, 1, 5, NONE);
        s.does("cancel", 2);
        s.is(2, "lane", 0, 2);
        s.refuses(-3, "put", 0, 0, 1, 5, NONE);
        s.does("open", 0).is(3, "put", 0, 0, 1, 5, NONE);
        Probe.sentence(2, "-4, -5, -6, -7");
        Probe t = new Probe();
        t.does("arrange", 0, 1, 1).does("put", 0, 0, 1, 1, NONE);
        t.refuses(-4, "put", 0, 0, 1, 2, NONE);
        t.refuses(-5, "put", 1, 0, 1, 1, NONE);
        t.does("rule", 4, 1);
        t.refuses(-4, "put", 1, 0, 1, 2, NONE);
        t.does("rule", 4, 2).is(1, "put", 1, 0, 1, 2, NONE);
    }

    /** TRIES 1, BAN 1; 0 STANDS with KEY 1, KEY 2 is BANNED, 2 is GONE, 3 ASIDE; lane 3 is CLOSED, lane 1 full. */
    private static Probe manyReasons() {
        Probe s = new Probe();
        s.does("rule", 3, 1).does("put", 0, 9, 1, 2, NONE);
        s.failed(0, 0, 1);
        s.does("rule", 5, 1).does("put", 1, 0, 1, 1, NONE);
        s.does("put", 2, 0, 1, 3, NONE).does("put", 2, 0, 1, 4, 2).does("cancel", 2);
        s.does("arrange", 1, 1, 1).does("drain", 3);
        return s;
    }

    private static void putOfSeveral() {
        Probe.sentence(0, "of several the greatest");
        Probe s = manyReasons();
        int[] wrongLane = {5, 0, 1, 5, NONE};
        int[] gone = {0, 0, 1, 5, 2};
        int[][] noSuch = {wrongLane, gone, {0, 10, 1, 5, NONE}, {0, 0, 21, 5, NONE}, {0, 0, 1, 10000, NONE}};
        for (int[] a : noSuch) {
            s.refuses(-2, "put", a);
        }
        // -2 ahead of -3, -4, -5, -7.
        s.refuses(-2, "put", 3, 10, 1, 5, NONE);
        s.refuses(-2, "put", 3, 0, 1, 5, 2);
        s.refuses(-2, "put", 1, 0, 0, 5, NONE);
        s.refuses(-2, "put", 1, 0, 1, 5, 2);
        s.refuses(-2, "put", 0, 0, 0, 1, NONE);
        s.refuses(-2, "put", 0, 0, 0, 2, NONE);
        // -3 ahead of -4, -5, -7, by the LANE and by the one BEHIND.
        s.refuses(-3, "put", 1, 0, 1, 5, 3);
        s.refuses(-3, "put", 0, 0, 1, 1, 3);
        s.refuses(-3, "put", 0, 0, 1, 2, 3);
        s.refuses(-3, "put", 3, 0, 1, 1, NONE);
        s.refuses(-3, "put", 3, 0, 1, 2, NONE);
        // -4 ahead of -5, -7.
        s.refuses(-4, "put", 1, 0, 1, 5, NONE);
        s.refuses(-4, "put", 1, 0, 1, 1, NONE);
        s.refuses(-4, "put", 1, 0, 1, 2, NONE);
        // -5 alone, -7 alone, -5 ahead of -7.
        s.refuses(-5, "put", 0, 0, 1, 1, NONE);
        s.refuses(-7, "put", 0, 0, 1, 2, NONE);
        s.does("rule", 5, 2).does("put", 0, 0, 1, 2, NONE).does("rule", 5, 1);
        s.refuses(-5, "put", 0, 0, 1, 2, NONE);
        s.does("rule", 4, 1);
        s.refuses(-4, "put", 0, 0, 1, 2, NONE);
        s.refuses(-3, "put", 3, 0, 1, 5, NONE);
    }

    private static void take() {
        Probe.sentence(3, "A WORKER TAKES: the TASK");
        Probe s = Scenes.oneOfEach();
        s.is(0, "take", 5);
        s.is(OUT, "task", 0, 6);
        s.is(0, "worker", 5, 0);
        Probe.sentence(3, "NONE: there is not THE LANE");
        new Probe().changesNothing(NONE, "take", 0);
        // One is HELD, one RESTS, one is OUT, none WAITS.
        Probe none = Scenes.oneOfEach();
        none.does("cancel", 0);
        none.changesNothing(NONE, "take", 0);
        Probe limited = new Probe();
        limited.does("arrange", 0, 2, 1).does("put", 0, 0, 1, 1, NONE).does("put", 0, 0, 1, 2, NONE);
        limited.is(0, "take", 0);
        limited.changesNothing(NONE, "take", 1);
        Probe.sentence(3, "-2, -3 (it has one)");
        limited.refuses(-3, "take", 0);
        limited.refuses(-2, "take", -1);
        limited.refuses(-2, "take", 6);
        limited.does("done", 0, 1).is(1, "take", 0);
        limited.refuses(-3, "take", 0);
        limited.does("fail", 0, 2, 1).is(NONE, "take", 0);
        // By DRAINING a LANE nothing of it is lost to those who TAKE.
        Probe draining = new Probe();
        draining.does("put", 0, 0, 1, 1, NONE).does("drain", 0).is(0, "take", 0);
    }

    /** The four calls of a WORKER and a TOKEN; of each what a TOKEN must be. */
    private static void tokens() {
        String[] names = {"done", "fail", "beat", "back", "hand"};
        int[] promises = {4, 5, 6, 7, 8};
        String[] words = {"-3 (it has none of that TOKEN)", "-3.", "-2, -3.", "-2, -3.", "-3 (it has none of that TOKEN, the other one has one)"};
        for (int i = 0; i < names.length; i++) {
            Probe.sentence(promises[i], words[i]);
            Probe s = new Probe();
            s.does("put", 0, 0, 1, 1, NONE).does("put", 0, 0, 1, 2, NONE);
            // Of nobody, for one who has none.
            for (int token : new int[] {0, 1, NONE, LEAST, MOST}) {
                s.refuses(-3, names[i], arguments(i, 0, token));
            }
            s.does("take", 0).does("take", 1);
            // One too small, one too large, another's, none.
            for (int token : new int[] {0, 2, 3, NONE, LEAST, MOST}) {
                s.refuses(-3, names[i], arguments(i, 0, token));
            }
            s.refuses(-3, names[i], arguments(i, 1, 1));
            s.refuses(-3, names[i], arguments(i, 2, 1));
            // One that was its own: given BACK, HANDED, DONE, FAILED, ended.
            Probe was = s.twin();
            was.does("back", 0, 1);
            was.refuses(-3, names[i], arguments(i, 0, 1));
            was.is(0, "take", 0);
            was.refuses(-3, names[i], arguments(i, 0, 1));
            Probe handed = s.twin();
            handed.does("hand", 0, 1, 4);
            handed.refuses(-3, names[i], arguments(i, 0, 1));
            Probe done = s.twin();
            done.does("done", 0, 1);
            done.refuses(-3, names[i], arguments(i, 0, 1));
            Probe failed = s.twin();
            failed.does("fail", 0, 1, 1);
            failed.refuses(-3, names[i], arguments(i, 0, 1));
            Probe ended = s.twin();
            ended.does("tick", 10);
            ended.refuses(-3, names[i], arguments(i, 0, 1));
            // No such WORKER is ahead of no such TOKEN.
            s.refuses(-2, names[i], arguments(i, -1, 1));
            s.refuses(-2, names[i], arguments(i, 6, 1));
            s.refuses(-2, names[i], arguments(i, 6, 9));
        }
    }

    private static int[] arguments(int name, int worker, int token) {
        if (name == 1) {
            return new int[] {worker, token, 50};
        }
        return name == 4 ? new int[] {worker, token, 5} : new int[] {worker, token};
    }

    private static void done() {
        Probe.sentence(4, "The TASK of a WORKER with that TOKEN is DONE: the TASK");
        Probe s = new Probe();
        s.does("put", 0, 0, 1, 1, NONE).does("put", 1, 0, 1, 2, 0);
        int token = s.taken(5, 0);
        s.is(0, "done", 5, token);
        s.is(0, "task", 0, 12);
        s.none("task", 0, 9);
        s.none("task", 0, 10);
        s.none("task", 0, 11);
        s.none("worker", 5, 0);
        s.is(0, "task", 1, 6);
        // At the last TICK of its LEASE it is DONE yet; at the one behind that it has FAILED.
        Probe last = new Probe();
        last.does("put", 0, 0, 1, 1, NONE).does("take", 0).does("tick", 9).is(0, "done", 0, 1);
        last.is(9, "task", 0, 12);
        Probe late = new Probe();
        late.does("put", 0, 0, 1, 1, NONE).does("take", 0).does("tick", 10);
        late.refuses(-3, "done", 0, 1);
        Probe.sentence(4, "-2 (no such WORKER)");
        late.refuses(-2, "done", -1, 1);
        late.refuses(-2, "done", 6, 1);
    }

    private static void fail() {
        Probe.sentence(5, "It FAILS by a CAUSE (1 .. 99): 2 it RESTS then, 5 it is ASIDE");
        for (int cause : new int[] {1, 99}) {
            Probe s = new Probe();
            s.does("rule", 3, 2).does("put", 0, 0, 1, 1, NONE);
            s.is(2, "fail", 0, s.taken(0, 0), cause);
            s.is(RESTS, "task", 0, 6);
            s.is(cause, "cause", 0, 0);
            s.does("tick", 2).is(5, "fail", 0, s.taken(0, 0), cause);
            s.is(5, "task", 0, 6);
            s.is(cause, "cause", 0, 1);
            s.is(1, "blamed", cause);
            s.is(2, "worker", 0, 5);
        }
        Probe.sentence(5, "-2 (no such WORKER, CAUSE)");
        Probe s = new Probe();
        s.does("put", 0, 0, 1, 1, NONE).does("take", 0);
        for (int cause : new int[] {0, 100, NONE, 101, LEAST, MOST}) {
            s.refuses(-2, "fail", 0, 1, cause);
            s.refuses(-2, "fail", 0, 2, cause);
            s.refuses(-2, "fail", 1, 1, cause);
        }
        s.refuses(-2, "fail", -1, 1, 1);
        s.refuses(-2, "fail", 6, 1, 1);
    }

    private static void beat() {
        Probe.sentence(6, "A BEAT: ENDS then");
        for (int lease : new int[] {1, 10, 99}) {
            Probe s = new Probe();
            s.does("put", 0, 0, 1, 1, NONE).does("take", 0).does("tick", 9).does("rule", 1, lease);
            s.is(9 + lease, "beat", 0, 1);
            s.is(9 + lease, "beat", 0, 1);
            s.is(9 + lease, "worker", 0, 2);
            s.is(1, "task", 0, 10);
            if (lease > 1) {
                s.does("tick", lease - 1).is(OUT, "task", 0, 6);
            }
            s.does("tick", 1).is(RESTS, "task", 0, 6);
            s.refuses(-3, "beat", 0, 1);
        }
        // A BEAT can let it END sooner, too.
        Probe s = new Probe();
        s.does("rule", 1, 99).does("put", 0, 0, 1, 1, NONE).does("take", 0).does("rule", 1, 1).is(1, "beat", 0, 1);
    }

    private static void back() {
        Probe.sentence(7, "It is given BACK: the TASK");
        Probe s = new Probe();
        s.does("put", 0, 0, 1, 1, NONE).does("arrange", 0, 1, 1).does("drain", 0);
        s.does("take", 0).does("fail", 0, 1, 1).does("tick", 2).does("take", 0);
        // Without ROOM, with its LANE DRAINING, at the last TICK of its LEASE.
        s.does("rule", 4, 1).does("tick", 9).is(0, "back", 0, 2);
        s.is(WAITS, "task", 0, 6);
        s.is(1, "task", 0, 7);
        s.is(1, "lane", 0, 2);
        s.is(0, "lane", 0, 9);
        s.is(2, "worker", 0, 3);
        s.is(0, "worker", 0, 4);
        s.is(1, "worker", 0, 5);
        s.refuses(-3, "back", 0, 2);
    }

    private static void hand() {
        Probe s = new Probe();
        s.does("put", 0, 0, 1, 1, NONE).does("put", 0, 0, 1, 2, NONE).does("take", 0).does("tick", 9);
        Probe.sentence(8, "-2 (no such WORKERS)");
        s.refuses(-2, "hand", 0, 1, -1);
        s.refuses(-2, "hand", 0, 1, 6);
        s.refuses(-2, "hand", -1, 1, 1);
        s.refuses(-2, "hand", 6, 1, 1);
        s.refuses(-2, "hand", 0, 2, 6);
        Probe.sentence(8, "-3 (it has none of that TOKEN, the other one has one)");
        s.refuses(-3, "hand", 0, 1, 0);
        s.refuses(-3, "hand", 1, 1, 0);
        s.refuses(-3, "hand", 1, 1, 1);
        s.does("take", 5);
        s.refuses(-3, "hand", 0, 1, 5);
        s.refuses(-3, "hand", 5, 2, 0);
        Probe.sentence(8, "It is HANDED: the TASK");
        s.is(0, "hand", 0, 1, 4);
        s.is(19, "task", 0, 11);
        s.is(1, "task", 0, 10);
        s.is(4, "task", 0, 9);
        s.is(0, "hand", 4, 1, 0);
        s.is(0, "task", 0, 9);
        s.is(2, "store", 11);
    }

    private static void every() {
        Probe.sentence(9, "A TIMER begins: its number");
        Probe s = new Probe();
        s.is(0, "every", 0, 0, 1, 0, 1);
        s.is(1, "every", 4, 9, 20, 9999, 99);
        // What it tells may not be able to come now: it begins all the same.
        s.does("drain", 2).is(2, "every", 2, 0, 1, 0, 1);
        s.does("put", 0, 0, 1, 5, NONE).is(3, "every", 0, 0, 1, 5, 1);
        s.does("rule", 4, 1).is(4, "every", 0, 0, 1, 6, 1);
        s.is(0, "timer", 4, 5);
        s.is(0, "timer", 4, 6);
        Probe.sentence(9, "-2, -6 (there were 12)");
        int[][] bad = {{-1, 0, 1, 0, 1}, {5, 0, 1, 0, 1}, {0, -1, 1, 0, 1}, {0, 10, 1, 0, 1}, {0, 0, 0, 0, 1},
            {0, 0, 21, 0, 1}, {0, 0, 1, -1, 1}, {0, 0, 1, 10000, 1}, {0, 0, 1, 0, 0}, {0, 0, 1, 0, 100}};
        for (int[] a : bad) {
            s.refuses(-2, "every", a);
        }
        for (int i = 5; i < 12; i++) {
            s.is(i, "every", 0, 0, 1, i, 99);
        }
        s.refuses(-6, "every", 0, 0, 1, 0, 1);
        for (int[] a : bad) {
            s.refuses(-2, "every", a);
        }
        s.does("stop", 11);
        s.refuses(-6, "every", 0, 0, 1, 0, 1);
    }

    private static void stop() {
        Probe.sentence(10, "-2, -3 (it is stopped)");
        Probe s = new Probe();
        s.refuses(-2, "stop", 0);
        s.does("every", 0, 0, 1, 1, 2);
        s.refuses(-2, "stop", -1);
        s.refuses(-2, "stop", 1);
        s.refuses(-2, "stop", LEAST);
        s.refuses(-2, "stop", MOST);
        Probe stopped = s.twin();
        stopped.is(0, "stop", 0);
        stopped.refuses(-3, "stop", 0);
        Probe.sentence(10, "A TIMER is stopped: how many came by it");
        // One came, one was SKIPPED.
        s.does("tick", 4);
        s.is(1, "stop", 0);
        s.refuses(-3, "stop", 0);
        s.is(1, "timer", 0, 6);
        s.does("cancel", 0).does("tick", 2).is(1, "store", 8);
        s.is(1, "timer", 0, 6);
        // Stopped a TICK ahead of its time, none comes.
        Probe t = new Probe();
        t.does("every", 0, 0, 1, 1, 99).does("tick", 98).is(0, "stop", 0);
        t.does("tick", 1).is(0, "store", 8);
    }

    private static void tick() {
        Probe.sentence(11, "n TICKS (1 .. 99): TICK; -2.");
        Probe s = Scenes.oneOfEach();
        s.does("every", 0, 0, 1, 1, 1);
        for (int n : new int[] {0, -1, 100, LEAST, MOST}) {
            s.refuses(-2, "tick", n);
        }
        s.is(1, "tick", 1);
        s.is(100, "tick", 99);
        s.is(100, "store", 0);
        // n at once are n one by one.
        Probe one = Scenes.oneOfEach();
        Probe many = Scenes.oneOfEach();
        for (Probe p : new Probe[] {one, many}) {
            p.does("every", 3, 1, 1, 80, 3).does("every", 4, 1, 1, 80, 4);
        }
        many.does("tick", 25);
        for (int i = 0; i < 25; i++) {
            one.does("tick", 1);
        }
        many.isLike(one);
    }

    private static void drain() {
        Probe.sentence(12, "A LANE DRAINS: how many STAND there; -2, -3 (it is not OPEN).");
        Probe s = Scenes.oneOfEach();
        s.refuses(-2, "drain", -1);
        s.refuses(-2, "drain", 5);
        // One WAITS; one is HELD; one RESTS, one is OUT, one DONE; two are GONE, one ASIDE; nothing.
        int[] stand = {1, 1, 2, 0, 0};
        for (int lane = 0; lane < 5; lane++) {
            s.is(stand[lane], "drain", lane);
            s.is(stand[lane] == 0 ? 2 : 1, "lane", lane, 2);
            s.refuses(-3, "drain", lane);
        }
        s.is(0, "share", 0, 2);
        s.is(0, "share", 4, 2);
    }

    private static void open() {
        Probe.sentence(13, "A LANE OPENS: 0; -2, -3 (it is OPEN).");
        Probe s = new Probe();
        s.refuses(-2, "open", -1);
        s.refuses(-2, "open", 5);
        s.does("put", 0, 0, 1, 1, NONE);
        s.refuses(-3, "open", 0);
        s.refuses(-3, "open", 4);
        s.does("drain", 0).does("drain", 4);
        s.is(0, "open", 0);
        s.is(0, "open", 4);
        s.refuses(-3, "open", 0);
        s.refuses(-3, "open", 4);
        s.is(1, "put", 4, 0, 1, 2, NONE);
        // Of what it was nothing is lost but that it was shut.
        Probe t = new Probe();
        t.does("arrange", 1, 0, 3).does("arrange", 1, 1, 2).does("put", 1, 0, 3, 1, NONE);
        t.completed(0, 0);
        t.does("drain", 1).is(2, "lane", 1, 2);
        t.does("open", 1).is(3, "lane", 1, 0);
        t.is(2, "lane", 1, 1);
        t.is(2520, "lane", 1, 3);
        t.is(3, "lane", 1, 6);
    }

    private static void cancel() {
        Probe.sentence(14, "A TASK that WAITS, is HELD or RESTS is GONE: how many go ASIDE by that");
        int[] asides = {1, 0, 0};
        for (int task = 0; task < 3; task++) {
            Probe s = Scenes.oneOfEach();
            s.is(asides[task], "cancel", task);
            s.is(6, "task", task, 6);
            s.none("task", task, 8);
            s.none("keyed", 10 + task);
            s.refuses(-3, "cancel", task);
        }
        Probe.sentence(14, "-2, -3 (it is something else)");
        Probe s = Scenes.oneOfEach();
        for (int task = 3; task < 8; task++) {
            s.refuses(-3, "cancel", task);
        }
        for (int task : new int[] {-1, 8, LEAST, MOST}) {
            s.refuses(-2, "cancel", task);
        }
        new Probe().refuses(-2, "cancel", 0);
    }

    private static void move() {
        Probe.sentence(15, "-2, -3 (it is something else, it is in that LANE, that is not OPEN), -4 (in that LANE)");
        Probe s = Scenes.oneOfEach();
        for (int task : new int[] {-1, 8, LEAST, MOST}) {
            s.refuses(-2, "move", task, 4);
        }
        for (int lane : new int[] {-1, 5, LEAST, MOST}) {
            s.refuses(-2, "move", 0, lane);
            s.refuses(-2, "move", 3, lane);
        }
        for (int task = 3; task < 8; task++) {
            s.refuses(-3, "move", task, 4);
        }
        for (int task = 0; task < 3; task++) {
            s.refuses(-3, "move", task, task);
        }
        // Lane 1, full, DRAINS; lane 3 is CLOSED: -3, not -4. Its own, though full: -3.
        s.does("arrange", 1, 1, 1);
        s.refuses(-4, "move", 0, 1);
        s.refuses(-3, "move", 1, 1);
        s.does("drain", 1).does("drain", 3);
        s.refuses(-3, "move", 0, 1);
        s.refuses(-3, "move", 0, 3);
        Probe.sentence(15, "It is moved: 0");
        // Of ROOM of all it needs none more.
        s.does("rule", 4, 1).does("arrange", 4, 1, 1).is(0, "move", 0, 4);
        s.is(4, "task", 0, 0);
        s.is(0, "lane", 0, 5);
        s.refuses(-4, "move", 2, 4);
        s.does("arrange", 4, 1, 2).is(0, "move", 2, 4);
        s.is(RESTS, "task", 2, 6);
        s.is(2, "task", 2, 8);
        // Out of a LANE that is DRAINING, which closes; not back to it.
        s.is(0, "move", 1, 0);
        s.is(2, "lane", 1, 2);
        s.is(HELD, "task", 1, 6);
        s.refuses(-3, "move", 1, 1);
    }

    private static void raise() {
        Probe.sentence(16, "It has another PRIORITY: RANK then; -2, -3 (it is something else, that is its PRIORITY).");
        Probe s = Scenes.oneOfEach();
        for (int task : new int[] {-1, 8, LEAST, MOST}) {
            s.refuses(-2, "raise", task, 5);
        }
        for (int priority : new int[] {-1, 10, LEAST, MOST}) {
            s.refuses(-2, "raise", 0, priority);
            s.refuses(-2, "raise", 3, priority);
        }
        for (int task = 3; task < 8; task++) {
            s.refuses(-3, "raise", task, 5);
            s.refuses(-3, "raise", task, (int) s.peek("task", task, 1));
        }
        s.refuses(-3, "raise", 0, 0);
        s.refuses(-3, "raise", 2, 9);
        s.is(72, "raise", 0, 9);
        s.refuses(-3, "raise", 0, 9);
        s.is(0, "raise", 0, 0);
        s.is(72, "raise", 1, 9);
        s.is(0, "raise", 2, 0);
        Probe.sentence(16, "RANK can be below NONE, too.");
        int refused = (int) s.peek("store", 10);
        s.does("tick", 10).does("put", 4, 0, 1, 90, NONE);
        for (int rank = -2; rank >= -7; rank--) {
            // AGE 1, CAME 10: PRIORITY 8 down to 3.
            s.does("rule", 0, 1).is(rank, "raise", 8, 10 + rank);
            s.is(10 + rank, "task", 8, 1);
        }
        s.is(-10, "raise", 8, 0);
        s.is(refused, "store", 10);
    }

    private static void again() {
        Probe s = new Probe();
        s.does("rule", 3, 1).does("put", 0, 0, 1, 1, NONE).does("put", 0, 0, 1, 2, 0).does("put", 0, 0, 1, 3, 1);
        s.failed(0, 0, 1);
        Probe.sentence(17, "-3 (it is not ASIDE, its LANE is not OPEN, the one BEHIND is ASIDE or GONE)");
        s.refuses(-3, "again", 1);
        s.refuses(-3, "again", 2);
        s.twin().is(0, "again", 0);
        Probe each = Scenes.oneOfEach();
        for (int task = 0; task < 7; task++) {
            each.refuses(-3, "again", task);
        }
        for (int task : new int[] {-1, 8, LEAST, MOST}) {
            each.refuses(-2, "again", task);
        }
        Probe gone = new Probe();
        gone.does("put", 0, 0, 1, 1, NONE).does("put", 0, 0, 1, 2, 0).does("cancel", 0);
        gone.refuses(-3, "again", 1);
        againInALane();
        Probe.sentence(17, "One that is ASIDE is tried again: 0 it WAITS, 1 it is HELD");
        s.is(0, "again", 0);
        s.refuses(-3, "again", 0);
        s.refuses(-3, "again", 2);
        s.is(1, "again", 1);
        s.is(1, "again", 2);
        s.is(HELD, "task", 2, 6);
        s.none("aside", 0);
        // BEHIND is OUT: HELD; BEHIND is DONE: it WAITS.
        Probe t = new Probe();
        t.does("rule", 3, 1).does("put", 0, 9, 1, 1, NONE).does("put", 1, 0, 1, 2, 0);
        t.failed(0, 0, 1);
        t.does("again", 0).does("take", 0);
        t.twin().is(1, "again", 1);
        t.does("done", 0, 2).is(0, "again", 1);
        t.is(WAITS, "task", 1, 6);
    }

    private static void againInALane() {
        // Its LANE DRAINS; is CLOSED.
        Probe lane = new Probe();
        lane.does("rule", 3, 1).does("put", 0, 9, 1, 1, NONE).does("put", 0, 0, 1, 2, NONE);
        lane.failed(0, 0, 1);
        lane.does("drain", 0);
        lane.refuses(-3, "again", 0);
        lane.does("cancel", 1);
        lane.refuses(-3, "again", 0);
        lane.does("open", 0).is(0, "again", 0);
    }

    private static void againOfSeveral() {
        Probe.sentence(17, "-4, -5, -7");
        Probe s = new Probe();
        s.does("rule", 3, 1).does("put", 0, 9, 1, 1, NONE);
        s.failed(0, 0, 1);
        s.does("arrange", 0, 1, 1).does("put", 0, 0, 1, 2, NONE);
        s.refuses(-4, "again", 0);
        s.does("arrange", 0, 1, 2).does("rule", 4, 1);
        s.refuses(-4, "again", 0);
        s.twin().does("rule", 4, 2).is(0, "again", 0);
        // -4 ahead of -5 and -7, -5 ahead of -7, -3 ahead of all.
        s.does("rule", 4, 2).does("put", 4, 0, 1, 1, NONE);
        s.refuses(-4, "again", 0);
        s.does("rule", 4, 3);
        s.refuses(-5, "again", 0);
        s.does("rule", 5, 1);
        s.refuses(-5, "again", 0);
        s.does("rule", 4, 2);
        s.refuses(-4, "again", 0);
        Probe shut = s.twin();
        shut.does("drain", 0);
        shut.refuses(-3, "again", 0);
        s.does("rule", 4, 3).does("cancel", 2);
        s.refuses(-7, "again", 0);
        s.does("arrange", 0, 1, 1);
        s.refuses(-4, "again", 0);
        s.does("arrange", 0, 1, 2).does("rule", 5, 2).is(0, "again", 0);
        // Lane and all are just full behind it.
        s.does("rule", 4, 2);
        s.refuses(-4, "put", 4, 0, 1, 9, NONE);
    }

    private static void discard() {
        Probe.sentence(18, "One that is ASIDE is GONE: how many are ASIDE yet; -2, -3 (it is not ASIDE).");
        Probe s = Scenes.oneOfEach();
        for (int task = 0; task < 7; task++) {
            s.refuses(-3, "discard", task);
        }
        for (int task : new int[] {-1, 8, LEAST, MOST}) {
            s.refuses(-2, "discard", task);
        }
        s.is(0, "discard", 7);
        s.is(6, "task", 7, 6);
        s.refuses(-3, "discard", 7);
        // The one BEHIND which others come, which are ASIDE by it: they stay so.
        Probe t = new Probe();
        t.does("rule", 3, 1).does("put", 0, 0, 1, 1, NONE).does("put", 0, 0, 1, 2, 0).does("put", 0, 0, 1, 3, 1);
        t.failed(0, 0, 9);
        t.is(2, "discard", 0);
        t.is(100, "cause", 1, 0);
        t.is(1, "cause", 1, NONE);
        t.is(1, "aside", 0);
        t.is(1, "discard", 2);
        t.is(0, "discard", 1);
        t.none("aside", 0);
        t.none("worst");
    }

    private static void arrange() {
        Probe.sentence(19, "0 WEIGHT, 1 ROOM, 2 LIMIT becomes v: what it was; -2 (v can't be, too).");
        Probe s = Scenes.oneOfEach();
        int[] top = {9, 32, 6};
        int[] first = {1, 12, 6};
        int[] told = {0, 1, 8};
        for (int what = 0; what < 3; what++) {
            for (int v : new int[] {0, -1, top[what] + 1, LEAST, MOST}) {
                s.refuses(-2, "arrange", 4, what, v);
            }
            s.is(first[what], "arrange", 4, what, top[what]);
            s.is(top[what], "arrange", 4, what, 1);
            s.is(1, "arrange", 4, what, 1);
            for (int other = 0; other < 3; other++) {
                s.is(other <= what ? 1 : first[other], "lane", 4, told[other]);
                s.is(first[other], "lane", 3, told[other]);
            }
        }
        for (int what : new int[] {-1, 3, LEAST, MOST}) {
            s.refuses(-2, "arrange", 4, what, 1);
        }
        for (int lane : new int[] {-1, 5, LEAST, MOST}) {
            s.refuses(-2, "arrange", lane, 0, 1);
        }
    }

    private static void rule() {
        Probe.sentence(20, "0 AGE, 1 LEASE, 2 REST, 3 TRIES, 4 ROOM of all, 5 BAN becomes v: what it was; -2.");
        Probe s = Scenes.oneOfEach();
        int[] top = {99, 99, 20, 9, 48, 9};
        int[] first = {8, 10, 2, 3, 32, 2};
        for (int what = 0; what < 6; what++) {
            for (int v : new int[] {0, -1, top[what] + 1, LEAST, MOST}) {
                s.refuses(-2, "rule", what, v);
            }
            s.is(first[what], "rule", what, top[what]);
            s.is(top[what], "rule", what, 1);
            s.is(1, "rule", what, 1);
            for (int other = 0; other < 6; other++) {
                s.is(other <= what ? 1 : first[other], "store", 13 + other);
            }
        }
        for (int what : new int[] {-1, 6, LEAST, MOST}) {
            s.refuses(-2, "rule", what, 1);
        }
    }

    private static void ruleLater() {
        Probe.sentence(20, "(What is OUT, RESTS, has TRIED as often already stays as it is; RANKS are by AGE as it is.)");
        Probe s = new Probe();
        s.does("put", 0, 9, 1, 1, NONE).does("put", 0, 8, 1, 2, NONE).does("put", 0, 7, 1, 3, NONE);
        s.failed(0, 0, 1);
        s.does("take", 1).does("rule", 1, 1).does("rule", 2, 20).does("rule", 3, 1);
        s.is(10, "task", 1, 11);
        s.is(2, "task", 0, 8);
        s.does("tick", 1).is(OUT, "task", 1, 6);
        s.is(RESTS, "task", 0, 6);
        s.does("tick", 1).is(WAITS, "task", 0, 6);
        s.is(1, "task", 0, 7);
        s.does("tick", 7).is(OUT, "task", 1, 6);
        s.does("tick", 1).is(5, "task", 1, 6);
        s.does("rule", 0, 1).is(9, "rank", 0);
        s.does("rule", 0, 99).is(891, "rank", 0);
        s.is(693, "rank", 2);
    }

    private static void pardon() {
        Probe.sentence(21, "A KEY is PARDONED: how many STRIKES it had; -2, -3 (none).");
        Probe s = new Probe();
        s.does("rule", 3, 1);
        for (int key : new int[] {0, 9999}) {
            s.refuses(-3, "pardon", key);
            int task = (int) s.peek("store", 8);
            s.does("put", 0, 0, 1, key, NONE);
            s.refuses(-3, "pardon", key);
            s.failed(0, task, 1);
            s.does("again", task);
            s.failed(0, task, 1);
            s.refuses(-7, "again", task);
            s.is(2, "pardon", key);
            s.refuses(-3, "pardon", key);
            s.is(0, "again", task);
            s.failed(0, task, 1);
            s.is(1, "pardon", key);
        }
        for (int key : new int[] {-1, 10000, LEAST, MOST}) {
            s.refuses(-2, "pardon", key);
        }
    }

    private static void steps() {
        Probe.sentence(22, "n STEPS (1 .. 60) by a seed: how many of them were; -2.");
        Probe s = Scenes.oneOfEach();
        for (int n : new int[] {0, -1, 61, LEAST, MOST}) {
            s.refuses(-2, "steps", 0, n);
            s.refuses(-2, "steps", -1, n);
        }
        s.refuses(-2, "steps", -1, 60);
        s.refuses(-2, "steps", LEAST, 1);
        Probe.sentence(22, "x stays nowhere");
        for (int seed : new int[] {0, 1, 64, 1 << 30, MOST}) {
            Probe whole = Scenes.oneOfEach();
            long were = whole.ask("steps", seed, 60);
            Probe.due("none or some, all at the most", 1, were >= 0 && were <= 60 ? 1 : 0);
            // The same seed draws the same, whatever was drawn ahead of it.
            Probe first = new Probe();
            Probe second = new Probe();
            second.ask("steps", seed / 2, 0);
            Probe.due("seed " + seed, first.ask("steps", seed, 60), second.ask("steps", seed, 60));
            Probe.due("seed " + seed, first.ask("steps", 5, 60), second.ask("steps", 5, 60));
            for (int what = 0; what <= 12; what++) {
                if (what != 10) {
                    Probe.due("store " + what, first.ask("store", what), second.ask("store", what));
                }
            }
        }
        // Of a row of STEPS the first ones are what fewer of them are.
        long last = 0;
        for (int n = 1; n <= 60; n++) {
            Probe some = new Probe();
            long were = some.ask("steps", 705, n);
            Probe.due("one more at the most", 1, were == last || were == last + 1 ? 1 : 0);
            last = were;
        }
    }

    private static void stepsRefuseNothing() {
        Probe.sentence(22, "what can't be is not counted as refused");
        // What the first draw of 10 is, by its seed: sought here, in the document's own words.
        int[] seeds = new int[10];
        for (int seed = 0; seed < 2000; seed++) {
            seeds[(int) ((1103515245L * seed + 12345) % 2147483648L / 64 % 10)] = seed;
        }
        // In an empty store none of 3 .. 7, 9 can be, and all that can't be changes nothing.
        for (int what = 3; what <= 9; what++) {
            if (what != 8) {
                new Probe().changesNothing(0, "steps", seeds[what], 1);
            }
        }
        for (int what = 0; what < 3; what++) {
            new Probe().is(1, "steps", seeds[what], 1);
            Probe shut = new Probe();
            for (int lane = 0; lane < 5; lane++) {
                shut.does("drain", lane);
            }
            shut.changesNothing(0, "steps", seeds[what], 1);
        }
        Probe ticks = new Probe();
        ticks.is(1, "steps", seeds[8], 1);
        ticks.is(1, "store", 0);
        ticks.is(0, "store", 10);
        // All six have one: each TAKES in vain; then all are DONE, or FAIL.
        Probe busy = new Probe();
        for (int i = 0; i < 7; i++) {
            busy.does("put", 0, 0, 1, i, NONE);
        }
        Probe idle = busy.twin();
        for (int i = 0; i < 6; i++) {
            busy.does("take", i);
        }
        for (int what = 3; what <= 4; what++) {
            busy.changesNothing(0, "steps", seeds[what], 1);
            idle.twin().is(1, "steps", seeds[what], 1);
        }
        for (int what = 5; what <= 7; what++) {
            Probe t = busy.twin();
            t.is(1, "steps", seeds[what], 1);
            t.is(what == 7 ? 0 : 1, "store", 5);
            t.is(what == 7 ? 1 : 0, "store", 3);
            t.is(5, "store", 4);
            idle.changesNothing(0, "steps", seeds[what], 1);
        }
    }
}
