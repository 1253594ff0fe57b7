import java.util.Arrays;

/** A bounded store of work in lanes; ../shared/DOC.md numbers its promises. */
public final class LaneStore {
    public static final int NONE = -1;

    private static final int NO_SUCH = -2;
    private static final int NOT_SO = -3;
    private static final int NO_ROOM = -4;
    private static final int KEY_STANDS = -5;
    private static final int NO_MORE = -6;
    private static final int KEY_BANNED = -7;
    private static final int NO_RANK = -1000000;
    private static final int NO_LINE = -2;

    private static final int LANES = 5;
    private static final int WORKERS = 6;
    private static final int TIMERS = 12;
    private static final int TASKS = 400;
    private static final int STANDING = 48;
    private static final int STATES = 7;
    private static final int TOP_PRIORITY = 9;
    private static final int TOP_SIZE = 20;
    private static final int TOP_KEY = 9999;
    private static final int TOP_PERIOD = 99;
    private static final int TOP_TICKS = 99;
    private static final int TOP_STEPS = 60;
    private static final int CAUSES_KEPT = 20;
    // Divisible by every WEIGHT, so a PASS never loses a remainder.
    private static final int PASS_UNIT = 2520;

    private static final int WAITS = 0;
    private static final int HELD = 1;
    private static final int RESTS = 2;
    private static final int OUT = 3;
    private static final int DONE = 4;
    private static final int ASIDE = 5;
    private static final int GONE = 6;

    private static final int OPEN = 0;
    private static final int DRAINING = 1;
    private static final int CLOSED = 2;

    private static final int AGE = 0;
    private static final int LEASE = 1;
    private static final int REST = 2;
    private static final int TRIES = 3;
    private static final int ROOM = 4;
    private static final int BAN = 5;
    private static final int[] FIRST_RULES = {8, 10, 2, 3, 32, 2};
    private static final int[] TOP_RULES = {99, 99, 20, 9, 48, 9};
    private static final int[] TOP_OF_LANE = {9, 32, 6};

    private static final int LEASE_RAN_OUT = 0;
    private static final int TOP_CAUSE = 99;
    private static final int BEHIND_ASIDE = 100;
    private static final int BEHIND_GONE = 101;

    private static final int LINE_CAME = 0;
    private static final int LINE_TAKEN = 1;
    private static final int LINE_DONE = 2;
    private static final int LINE_FAILED = 3;
    private static final int LINE_ASIDE = 4;
    private static final int LINE_WAITS = 5;
    private static final int LINE_GONE = 6;
    private static final int LINE_MOVED = 7;
    private static final int LINE_AGAIN = 8;

    private final Board board;
    private final Trial trial;
    private final Row tasks;
    private final Row asides;
    private final Row falling;
    private final Worker[] workers;
    private final Timer[] timers;
    private final Strikes struck;
    private final Diary diary;
    private final Draws draws;
    private int timersBegun;
    private int now;
    private int latestToken;
    private int refused;

    public LaneStore() {
        board = new Board();
        trial = new Trial();
        tasks = new Row(TASKS);
        asides = new Row(TASKS);
        falling = new Row(STANDING);
        workers = new Worker[WORKERS];
        for (int i = 0; i < WORKERS; i++) {
            workers[i] = new Worker(i);
        }
        timers = new Timer[TIMERS];
        struck = new Strikes();
        diary = new Diary();
        draws = new Draws();
    }

    // ---- work

    public int put(int lane, int priority, int size, int key, int behind) {
        return counted(comeIfCan(lane, priority, size, key, behind));
    }

    public int take(int worker) {
        return counted(takeIfCan(worker));
    }

    public int done(int worker, int token) {
        Worker w = workerAt(worker);
        Task t = w == null ? null : w.holding(token);
        if (t == null) {
            return counted(w == null ? NO_SUCH : NOT_SO);
        }
        completeTask(t);
        return t.number;
    }

    public int fail(int worker, int token, int cause) {
        Worker w = workerAt(worker);
        if (w == null || cause < 1 || cause > TOP_CAUSE) {
            return counted(NO_SUCH);
        }
        Task t = w.holding(token);
        if (t == null) {
            return counted(NOT_SO);
        }
        failTask(t, cause);
        return t.state;
    }

    public int beat(int worker, int token) {
        Worker w = workerAt(worker);
        Task t = w == null ? null : w.holding(token);
        if (t == null) {
            return counted(w == null ? NO_SUCH : NOT_SO);
        }
        t.ends = now + board.rules[LEASE];
        return t.ends;
    }

    public int back(int worker, int token) {
        Worker w = workerAt(worker);
        Task t = w == null ? null : w.holding(token);
        if (t == null) {
            return counted(w == null ? NO_SUCH : NOT_SO);
        }
        t.letGo();
        waitAgain(t);
        return t.number;
    }

    public int hand(int worker, int token, int other) {
        Worker from = workerAt(worker);
        Worker to = workerAt(other);
        if (from == null || to == null) {
            return counted(NO_SUCH);
        }
        Task t = from.holding(token);
        if (t == null || to.held != null) {
            return counted(NOT_SO);
        }
        t.letGo();
        t.giveTo(to, token, now + board.rules[LEASE]);
        return t.number;
    }

    public int every(int lane, int priority, int size, int key, int period) {
        Lane l = board.laneAt(lane);
        if (l == null || !isWork(priority, size, key) || period < 1 || period > TOP_PERIOD) {
            return counted(NO_SUCH);
        }
        if (timersBegun >= TIMERS) {
            return counted(NO_MORE);
        }
        timers[timersBegun] = new Timer(l, priority, size, key, period, now + period);
        timersBegun++;
        return timersBegun - 1;
    }

    public int stop(int timer) {
        Timer r = timerAt(timer);
        if (r == null) {
            return counted(NO_SUCH);
        }
        if (r.next == NONE) {
            return counted(NOT_SO);
        }
        r.next = NONE;
        return r.came;
    }

    public int tick(int n) {
        if (n < 1 || n > TOP_TICKS) {
            return counted(NO_SUCH);
        }
        for (int i = 0; i < n; i++) {
            oneTick();
        }
        return now;
    }

    public int drain(int lane) {
        Lane l = board.laneAt(lane);
        if (l == null) {
            return counted(NO_SUCH);
        }
        if (l.openness != OPEN) {
            return counted(NOT_SO);
        }
        l.openness = DRAINING;
        l.closeIfDrained();
        return l.standing;
    }

    public int open(int lane) {
        Lane l = board.laneAt(lane);
        if (l == null) {
            return counted(NO_SUCH);
        }
        if (l.openness == OPEN) {
            return counted(NOT_SO);
        }
        l.openness = OPEN;
        return 0;
    }

    public int cancel(int task) {
        Task t = taskAt(task);
        if (t == null) {
            return counted(NO_SUCH);
        }
        if (!t.isLoose()) {
            return counted(NOT_SO);
        }
        board.change(t, GONE);
        note(LINE_GONE, t, null, 0);
        gatherFalling();
        return setAside(BEHIND_GONE);
    }

    public int move(int task, int lane) {
        Task t = taskAt(task);
        Lane to = board.laneAt(lane);
        if (t == null || to == null) {
            return counted(NO_SUCH);
        }
        if (!t.isLoose() || t.lane == to || to.openness != OPEN) {
            return counted(NOT_SO);
        }
        if (!to.hasRoom()) {
            return counted(NO_ROOM);
        }
        board.transfer(t, to);
        note(LINE_MOVED, t, null, 0);
        return 0;
    }

    public long raise(int task, int priority) {
        int answer = raiseIfCan(task, priority);
        return answer < NONE ? counted(answer) : rank(task);
    }

    public int again(int task) {
        Task t = taskAt(task);
        if (t == null) {
            return counted(NO_SUCH);
        }
        int why = whyNotAgain(t);
        if (why < NONE) {
            return counted(why);
        }
        asides.drop(t);
        t.tried = 0;
        note(LINE_AGAIN, t, null, 0);
        board.settle(t);
        return t.state == HELD ? 1 : 0;
    }

    public int discard(int task) {
        Task t = taskAt(task);
        if (t == null) {
            return counted(NO_SUCH);
        }
        if (t.state != ASIDE) {
            return counted(NOT_SO);
        }
        asides.drop(t);
        board.change(t, GONE);
        note(LINE_GONE, t, null, 0);
        return asides.size;
    }

    public int arrange(int lane, int what, int v) {
        Lane l = board.laneAt(lane);
        if (l == null || what < 0 || what >= TOP_OF_LANE.length || v < 1 || v > TOP_OF_LANE[what]) {
            return counted(NO_SUCH);
        }
        return l.rearrange(what, v);
    }

    public int rule(int what, int v) {
        if (what < 0 || what >= TOP_RULES.length || v < 1 || v > TOP_RULES[what]) {
            return counted(NO_SUCH);
        }
        int was = board.rules[what];
        board.rules[what] = v;
        return was;
    }

    public int pardon(int key) {
        if (!isKey(key)) {
            return counted(NO_SUCH);
        }
        int had = struck.count(key);
        if (had == 0) {
            return counted(NOT_SO);
        }
        struck.forget(key);
        return had;
    }

    public int steps(int seed, int n) {
        if (seed < 0 || n < 1 || n > TOP_STEPS) {
            return counted(NO_SUCH);
        }
        draws.x = seed;
        int were = 0;
        for (int i = 0; i < n; i++) {
            if (oneStep()) {
                were++;
            }
        }
        return were;
    }

    // ---- what is there

    public int store(int what) {
        if (what >= 1 && what <= STATES) {
            return board.counts[what - 1];
        }
        if (what >= 13 && what < 13 + TOP_RULES.length) {
            return board.rules[what - 13];
        }
        switch (what) {
            case 0: return now;
            case 8: return tasks.size;
            case 9: return board.standing.size;
            case 10: return refused;
            case 11: return latestToken;
            case 12: return board.liveLanes();
            default: return NONE;
        }
    }

    public int lane(int lane, int what) {
        Lane l = board.laneAt(lane);
        return l == null ? NONE : l.tell(what);
    }

    public int task(int task, int what) {
        Task t = taskAt(task);
        return t == null ? NONE : t.tell(what);
    }

    public int rank(int task) {
        Task t = taskAt(task);
        return t == null ? NO_RANK : t.rankBy(board.rules[AGE]);
    }

    public int cause(int task, int k) {
        Task t = taskAt(task);
        return t == null ? NONE : t.causeAt(k);
    }

    public int worker(int worker, int what) {
        Worker w = workerAt(worker);
        return w == null ? NONE : w.tell(what);
    }

    public int timer(int timer, int what) {
        Timer r = timerAt(timer);
        return r == null ? NONE : r.tell(what);
    }

    public int waiting(int lane, int k) {
        Lane l = board.laneAt(lane);
        return l == null ? NONE : numberOf(board.kth(WAITS, l, k));
    }

    public int keyed(int key) {
        return numberOf(board.withKey(key));
    }

    public int resting(int k) {
        return numberOf(board.kth(RESTS, null, k));
    }

    public int aside(int k) {
        return numberOf(asides.at(k));
    }

    public int ending(int k) {
        return numberOf(board.kth(OUT, null, k));
    }

    public int strikes(int key) {
        return isKey(key) ? struck.count(key) : NONE;
    }

    public int banned(int k) {
        return struck.kthWith(board.rules[BAN], k);
    }

    public int waits(int lane, int what) {
        Lane l = board.laneAt(lane);
        if (l == null) {
            return NONE;
        }
        switch (what) {
            case 0: return l.waitedInAll;
            case 1: return l.waitedMost;
            case 2: return l.waitedTask;
            default: return NONE;
        }
    }

    public int share(int lane, int what) {
        Lane l = board.laneAt(lane);
        if (l == null) {
            return NONE;
        }
        switch (what) {
            case 0: return thousandths(l.takenSize, board.takenSizes());
            case 1: return thousandths(l.weight, board.weights());
            case 2: return placesIn(l);
            case 3: return numberOf(board.longestWaiting(l));
            case 4: return board.waitingSizes(l);
            default: return NONE;
        }
    }

    public int path(int task, int k) {
        if (k < 0) {
            return NONE;
        }
        int at = 0;
        for (Task t = taskAt(task); t != null; t = t.behind) {
            if (at == k) {
                return t.number;
            }
            at++;
        }
        return NONE;
    }

    // ---- what would be

    public int ahead(int k) {
        if (k < 0 || k >= board.counts[WAITS]) {
            return NONE;
        }
        return trial.takenAt(board, k);
    }

    public int turnOf(int task) {
        Task t = taskAt(task);
        return t == null || t.state != WAITS ? NONE : trial.turnIn(board, t, t.lane);
    }

    public int bestLane(int task, int what) {
        Task t = taskAt(task);
        if (t == null || t.state != WAITS || what < 0 || what > 1) {
            return NONE;
        }
        int best = NONE;
        int fewest = 0;
        for (Lane l : board.lanes) {
            if (l != t.lane && (l.openness != OPEN || !l.hasRoom())) {
                continue;
            }
            int turn = trial.turnIn(board, t, l);
            if (best == NONE || turn < fewest) {
                best = l.number;
                fewest = turn;
            }
        }
        return what == 0 ? best : fewest;
    }

    public int chain(int task, int what) {
        Task first = taskAt(task);
        if (first == null || what < 0 || what > 1) {
            return NONE;
        }
        int sizes = first.size;
        int links = 1;
        for (Task t = first.behind; t != null && t.state != DONE; t = t.behind) {
            sizes += t.size;
            links++;
        }
        return what == 0 ? sizes : links;
    }

    public int lapse(int n, int what) {
        if (n < 1 || n > TOP_TICKS) {
            return NONE;
        }
        switch (what) {
            case 0: return failingBy(now + n);
            case 1: return goingAsideBy(now + n);
            case 2: return wakingBy(now + n);
            default: return NONE;
        }
    }

    public int safe(int task) {
        Task t = taskAt(task);
        if (t == null || t.state != WAITS) {
            return NONE;
        }
        int age = board.rules[AGE];
        return Math.max(now, TOP_PRIORITY * age - t.rankBy(age));
    }

    public int finish(int w, int what) {
        if (!isCrew(w) || what < 0 || what > 2) {
            return NONE;
        }
        trial.run(board, w, now);
        switch (what) {
            case 0: return trial.passed;
            case 1: return trial.last;
            default: return trial.idle;
        }
    }

    public int empties(int lane, int w) {
        Lane l = board.laneAt(lane);
        if (l == null || !isCrew(w)) {
            return NONE;
        }
        trial.run(board, w, now);
        return trial.emptied[l.number];
    }

    public int enough(int n) {
        if (n < 0) {
            return NONE;
        }
        for (int w = 1; w <= WORKERS; w++) {
            trial.run(board, w, now);
            if (trial.passed <= n) {
                return w;
            }
        }
        return NONE;
    }

    public int hangs(int task) {
        Task root = taskAt(task);
        if (root == null) {
            return NONE;
        }
        int n = 0;
        for (int i = root.number + 1; i < tasks.size; i++) {
            if (hangsOn(tasks.items[i], root)) {
                n++;
            }
        }
        return n;
    }

    public int spread(int what) {
        Lane least = board.theLane(false);
        Lane greatest = board.greatestPass();
        if (least == null || greatest == null) {
            return NONE;
        }
        switch (what) {
            case 0: return greatest.pass - least.pass;
            case 1: return greatest.number;
            case 2: return least.number;
            default: return NONE;
        }
    }

    public int blamed(int cause) {
        return cause < 0 || cause > BEHIND_GONE ? NONE : asideBy(cause);
    }

    public int worst() {
        int worst = NONE;
        int most = 0;
        for (int cause = 0; cause <= BEHIND_GONE && asides.size > 0; cause++) {
            int n = asideBy(cause);
            if (n > most) {
                worst = cause;
                most = n;
            }
        }
        return worst;
    }

    public int log(int k, int what) {
        return diary.read(k, what);
    }

    // ---- the acts behind the calls

    private int counted(int answer) {
        if (answer < NONE) {
            refused++;
        }
        return answer;
    }

    private int comeIfCan(int lane, int priority, int size, int key, int behind) {
        Lane to = board.laneAt(lane);
        if (to == null || !isWork(priority, size, key)) {
            return NO_SUCH;
        }
        Task before = taskAt(behind);
        if (behind != NONE && (before == null || before.state == GONE)) {
            return NO_SUCH;
        }
        int why = whyNotCome(to, key, before);
        if (why < NONE) {
            return why;
        }
        Task t = new Task(tasks.size, to, before);
        t.priority = priority;
        t.size = size;
        t.key = key;
        t.came = now;
        tasks.append(t);
        note(LINE_CAME, t, null, 0);
        board.settle(t);
        return t.number;
    }

    private int whyNotCome(Lane to, int key, Task before) {
        if (to.openness != OPEN || (before != null && before.state == ASIDE)) {
            return NOT_SO;
        }
        if (!board.hasRoomIn(to)) {
            return NO_ROOM;
        }
        if (board.withKey(key) != null) {
            return KEY_STANDS;
        }
        if (tasks.size >= TASKS) {
            return NO_MORE;
        }
        return struck.count(key) >= board.rules[BAN] ? KEY_BANNED : 0;
    }

    private int whyNotAgain(Task t) {
        if (t.state != ASIDE || t.lane.openness != OPEN || t.isBehindLost()) {
            return NOT_SO;
        }
        if (!board.hasRoomIn(t.lane)) {
            return NO_ROOM;
        }
        if (board.withKey(t.key) != null) {
            return KEY_STANDS;
        }
        return struck.count(t.key) >= board.rules[BAN] ? KEY_BANNED : 0;
    }

    private int takeIfCan(int worker) {
        Worker w = workerAt(worker);
        if (w == null) {
            return NO_SUCH;
        }
        if (w.held != null) {
            return NOT_SO;
        }
        Task t = board.serve(true);
        if (t == null) {
            return NONE;
        }
        latestToken++;
        t.giveTo(w, latestToken, now + board.rules[LEASE]);
        w.took++;
        t.lane.recordTaken(t, now - t.came);
        note(LINE_TAKEN, t, w, 0);
        return t.number;
    }

    private void completeTask(Task t) {
        Worker w = t.letGo();
        if (w != null) {
            w.completed++;
        }
        t.doneAt = now;
        board.change(t, DONE);
        note(LINE_DONE, t, w, 0);
        for (int n = 0; n < STANDING; n++) {
            Task held = board.heldBehind(t);
            if (held == null) {
                break;
            }
            waitAgain(held);
        }
    }

    private void failTask(Task t, int cause) {
        Worker w = t.letGo();
        if (w != null) {
            w.failed++;
        }
        t.tried++;
        t.addCause(cause);
        note(LINE_FAILED, t, w, cause);
        if (t.tried >= board.rules[TRIES]) {
            struck.add(t.key);
            falling.clear();
            falling.append(t);
            setAside(cause);
        } else {
            t.due = now + restOf(t.tried);
            board.change(t, RESTS);
        }
    }

    /** Sets aside what is falling, then, level by level, what is HELD behind it: how many. */
    private int setAside(int rootCause) {
        int cause = rootCause;
        int n = 0;
        for (int level = 0; level <= STANDING && falling.size > 0; level++) {
            for (int i = 0; i < falling.size; i++) {
                Task t = falling.items[i];
                board.change(t, ASIDE);
                // A CAUSE of its own failing is kept already, as it FAILED.
                if (cause >= BEHIND_ASIDE) {
                    t.addCause(cause);
                }
                asides.append(t);
                note(LINE_ASIDE, t, null, cause);
            }
            n += falling.size;
            cause = BEHIND_ASIDE;
            gatherFalling();
        }
        return n;
    }

    // Nobody stays HELD behind one that is lost, so all found here are to fall now.
    private void gatherFalling() {
        falling.clear();
        for (int i = 0; i < board.standing.size; i++) {
            Task t = board.standing.items[i];
            if (t.state == HELD && t.isBehindLost()) {
                falling.append(t);
            }
        }
    }

    private void waitAgain(Task t) {
        board.awaitTurn(t);
        note(LINE_WAITS, t, null, 0);
    }

    private int raiseIfCan(int task, int priority) {
        Task t = taskAt(task);
        if (t == null || priority < 0 || priority > TOP_PRIORITY) {
            return NO_SUCH;
        }
        if (!t.isLoose() || t.priority == priority) {
            return NOT_SO;
        }
        t.priority = priority;
        return 0;
    }

    private void oneTick() {
        now++;
        for (int n = 0; n < STANDING; n++) {
            Task t = board.firstEnding(now);
            if (t == null) {
                break;
            }
            failTask(t, LEASE_RAN_OUT);
        }
        for (int n = 0; n < STANDING; n++) {
            Task t = board.firstDue(now);
            if (t == null) {
                break;
            }
            waitAgain(t);
        }
        for (int i = 0; i < timersBegun; i++) {
            Timer r = timers[i];
            if (r.next == now) {
                r.ring(comeIfCan(r.lane.number, r.priority, r.size, r.key, NONE) >= 0);
            }
        }
    }

    private boolean oneStep() {
        int what = draws.next(10);
        if (what < 3) {
            int lane = draws.next(LANES);
            int priority = draws.next(TOP_PRIORITY + 1);
            int size = draws.next(TOP_SIZE) + 1;
            int key = draws.next(TOP_KEY + 1);
            return comeIfCan(lane, priority, size, key, NONE) >= 0;
        }
        if (what < 5) {
            return takeIfCan(draws.next(WORKERS)) >= 0;
        }
        if (what < 8) {
            Worker w = workerAt(draws.next(WORKERS));
            int cause = what < 7 ? 0 : draws.next(TOP_CAUSE) + 1;
            Task t = w == null ? null : w.held;
            if (t != null && what < 7) {
                completeTask(t);
            } else if (t != null) {
                failTask(t, cause);
            }
            return t != null;
        }
        if (what == 8) {
            oneTick();
            return true;
        }
        int task = draws.next(TASKS);
        int priority = draws.next(TOP_PRIORITY + 1);
        return raiseIfCan(task, priority) >= 0;
    }

    private void note(int what, Task t, Worker w, int cause) {
        diary.write(now, what, t, w == null ? NONE : w.number, cause);
    }

    // ---- looking things up

    private Task taskAt(int number) {
        return tasks.at(number);
    }

    private Worker workerAt(int number) {
        return number < 0 || number >= WORKERS ? null : workers[number];
    }

    private Timer timerAt(int number) {
        return number < 0 || number >= timersBegun ? null : timers[number];
    }

    private static int numberOf(Task t) {
        return t == null ? NONE : t.number;
    }

    private static boolean isKey(int key) {
        return key >= 0 && key <= TOP_KEY;
    }

    private static boolean isWork(int priority, int size, int key) {
        return priority >= 0 && priority <= TOP_PRIORITY && size >= 1 && size <= TOP_SIZE && isKey(key);
    }

    private static boolean isCrew(int w) {
        return w >= 1 && w <= WORKERS;
    }

    private static int thousandths(int part, int whole) {
        return whole <= 0 ? 0 : (int) (1000L * part / whole);
    }

    private int placesIn(Lane l) {
        if (l.openness != OPEN) {
            return 0;
        }
        int inAll = Math.min(board.rules[ROOM] - board.standing.size, TASKS - tasks.size);
        return Math.max(0, Math.min(l.room - l.standing, inAll));
    }

    private int restOf(int tried) {
        return board.rules[REST] << Math.max(0, Math.min(tried - 1, 8));
    }

    // ---- reckoning

    private int failingBy(int tick) {
        int n = 0;
        for (int i = 0; i < board.standing.size; i++) {
            if (board.standing.items[i].endsBy(tick)) {
                n++;
            }
        }
        return n;
    }

    private int goingAsideBy(int tick) {
        int n = 0;
        for (int i = 0; i < board.standing.size; i++) {
            Task t = board.standing.items[i];
            if (t.endsBy(tick) && t.tried + 1 >= board.rules[TRIES]) {
                n += 1 + heldBehindAll(t);
            }
        }
        return n;
    }

    // One that fails on the way rests from then on, and may be DUE in time itself.
    private int wakingBy(int tick) {
        int n = 0;
        for (int i = 0; i < board.standing.size; i++) {
            Task t = board.standing.items[i];
            boolean fails = t.endsBy(tick) && t.tried + 1 < board.rules[TRIES];
            if (t.dueBy(tick) || (fails && t.ends + restOf(t.tried + 1) <= tick)) {
                n++;
            }
        }
        return n;
    }

    private int heldBehindAll(Task root) {
        int n = 0;
        for (int i = 0; i < board.standing.size; i++) {
            Task t = board.standing.items[i];
            Task up = t;
            while (up != null && up.state == HELD) {
                up = up.behind;
            }
            if (t.state == HELD && up == root) {
                n++;
            }
        }
        return n;
    }

    private static boolean hangsOn(Task t, Task root) {
        Task up = t;
        while (up != null && up.number > root.number && (up.stands() || up.state == ASIDE)) {
            up = up.behind;
        }
        return up == root;
    }

    private int asideBy(int cause) {
        int n = 0;
        for (int i = 0; i < asides.size; i++) {
            if (asides.items[i].latestCause == cause) {
                n++;
            }
        }
        return n;
    }

    private static final class Task {
        int number;
        Task behind;
        Lane lane;
        int priority;
        int size;
        int key;
        int came;
        // NONE till it has come.
        int state = NONE;
        int tried;
        int due;
        Worker worker;
        int token;
        int ends;
        int doneAt = NONE;
        int[] causes;
        int causesKept;
        // Told apart from the kept ones: it may have come when no more were kept.
        int latestCause = NONE;

        Task(int number, Lane lane, Task behind) {
            this.number = number;
            this.lane = lane;
            this.behind = behind;
        }

        /** What a trial needs of another task, in its own copy of the lane. */
        void copyFrom(Task other, Lane inLane) {
            number = other.number;
            behind = other.behind;
            lane = inLane;
            priority = other.priority;
            size = other.size;
            came = other.came;
            state = other.state;
            due = other.due;
            ends = other.ends;
        }

        boolean stands() {
            return state >= WAITS && state <= OUT;
        }

        boolean isLoose() {
            return state >= WAITS && state <= RESTS;
        }

        boolean isBehindLost() {
            return behind != null && (behind.state == ASIDE || behind.state == GONE);
        }

        boolean endsBy(int tick) {
            return state == OUT && ends <= tick;
        }

        boolean dueBy(int tick) {
            return state == RESTS && due <= tick;
        }

        int rankBy(int age) {
            return priority * age - came;
        }

        void giveTo(Worker w, int newToken, int newEnds) {
            worker = w;
            token = newToken;
            ends = newEnds;
            w.held = this;
        }

        Worker letGo() {
            Worker w = worker;
            if (w != null) {
                w.held = null;
            }
            worker = null;
            return w;
        }

        void addCause(int cause) {
            latestCause = cause;
            if (causes == null) {
                causes = new int[CAUSES_KEPT];
            }
            if (causesKept < CAUSES_KEPT) {
                causes[causesKept] = cause;
                causesKept++;
            }
        }

        int causeAt(int k) {
            if (k == NONE) {
                return causesKept;
            }
            return causes == null || k < 0 || k >= causesKept ? NONE : causes[k];
        }

        int tell(int what) {
            switch (what) {
                case 0: return lane.number;
                case 1: return priority;
                case 2: return size;
                case 3: return key;
                case 4: return behind == null ? NONE : behind.number;
                case 5: return came;
                case 6: return state;
                case 7: return tried;
                case 8: return state == RESTS ? due : NONE;
                case 9: return worker == null ? NONE : worker.number;
                case 10: return state == OUT ? token : NONE;
                case 11: return state == OUT ? ends : NONE;
                case 12: return doneAt;
                default: return NONE;
            }
        }
    }

    private static final class Lane {
        final int number;
        int weight = 1;
        int room = 12;
        int limit = 6;
        int openness = OPEN;
        int pass;
        int waiting;
        int standing;
        int out;
        int takenSize;
        int takenOften;
        int waitedInAll;
        int waitedMost = NONE;
        int waitedTask = NONE;

        Lane(int number) {
            this.number = number;
        }

        void copyFrom(Lane other) {
            weight = other.weight;
            room = other.room;
            limit = other.limit;
            openness = other.openness;
            pass = other.pass;
            waiting = other.waiting;
            standing = other.standing;
            out = other.out;
        }

        boolean hasRoom() {
            return standing < room;
        }

        void closeIfDrained() {
            if (openness == DRAINING && standing == 0) {
                openness = CLOSED;
            }
        }

        void payFor(int size) {
            pass += PASS_UNIT * size / Math.max(1, weight);
        }

        void recordTaken(Task t, int waited) {
            takenSize += t.size;
            takenOften++;
            waitedInAll += waited;
            if (waited > waitedMost) {
                waitedMost = waited;
                waitedTask = t.number;
            }
        }

        int rearrange(int what, int v) {
            int was;
            if (what == 0) {
                was = weight;
                weight = v;
            } else if (what == 1) {
                was = room;
                room = v;
            } else {
                was = limit;
                limit = v;
            }
            return was;
        }

        int tell(int what) {
            switch (what) {
                case 0: return weight;
                case 1: return room;
                case 2: return openness;
                case 3: return pass;
                case 4: return waiting;
                case 5: return standing;
                case 6: return takenSize;
                case 7: return takenOften;
                case 8: return limit;
                case 9: return out;
                default: return NONE;
            }
        }
    }

    private static final class Worker {
        final int number;
        Task held;
        int took;
        int completed;
        int failed;

        Worker(int number) {
            this.number = number;
        }

        Task holding(int token) {
            return held != null && held.token == token ? held : null;
        }

        int tell(int what) {
            switch (what) {
                case 0: return held == null ? NONE : held.number;
                case 1: return held == null ? NONE : held.token;
                case 2: return held == null ? NONE : held.ends;
                case 3: return took;
                case 4: return completed;
                case 5: return failed;
                default: return NONE;
            }
        }
    }

    private static final class Timer {
        final Lane lane;
        final int priority;
        final int size;
        final int key;
        final int period;
        int came;
        int skipped;
        int next;

        Timer(Lane lane, int priority, int size, int key, int period, int next) {
            this.lane = lane;
            this.priority = priority;
            this.size = size;
            this.key = key;
            this.period = period;
            this.next = next;
        }

        void ring(boolean itCame) {
            next += period;
            if (itCame) {
                came++;
            } else {
                skipped++;
            }
        }

        int tell(int what) {
            switch (what) {
                case 0: return lane.number;
                case 1: return priority;
                case 2: return size;
                case 3: return key;
                case 4: return period;
                case 5: return came;
                case 6: return skipped;
                case 7: return next;
                default: return NONE;
            }
        }
    }

    /** Tasks in a row of fixed length. */
    private static final class Row {
        final Task[] items;
        int size;

        Row(int most) {
            items = new Task[most];
        }

        Task at(int k) {
            return k < 0 || k >= size ? null : items[k];
        }

        void clear() {
            size = 0;
        }

        void append(Task t) {
            if (size < items.length) {
                items[size] = t;
                size++;
            }
        }

        void insertByNumber(Task t) {
            if (size >= items.length) {
                return;
            }
            int at = size;
            while (at > 0 && items[at - 1].number > t.number) {
                items[at] = items[at - 1];
                at--;
            }
            items[at] = t;
            size++;
        }

        void drop(Task t) {
            int kept = 0;
            for (int i = 0; i < size; i++) {
                if (items[i] != t) {
                    items[kept] = items[i];
                    kept++;
                }
            }
            size = kept;
        }
    }

    /** Lanes and the tasks that stand in them, by numbers; the true one, or a trial's copy. */
    private static final class Board {
        final Lane[] lanes = new Lane[LANES];
        final Row standing = new Row(STANDING);
        final int[] counts = new int[STATES];
        final int[] rules = FIRST_RULES.clone();

        Board() {
            for (int i = 0; i < LANES; i++) {
                lanes[i] = new Lane(i);
            }
        }

        Lane laneAt(int number) {
            return number < 0 || number >= LANES ? null : lanes[number];
        }

        boolean hasRoomIn(Lane l) {
            return l.hasRoom() && standing.size < rules[ROOM];
        }

        /** THE LANE; without a limit the one of the least PASS of those that are LIVE. */
        Lane theLane(boolean limited) {
            Lane best = null;
            for (Lane l : lanes) {
                boolean may = l.waiting > 0 && (!limited || l.out < l.limit);
                if (may && (best == null || l.pass < best.pass)) {
                    best = l;
                }
            }
            return best;
        }

        Lane greatestPass() {
            Lane best = null;
            for (Lane l : lanes) {
                if (l.waiting > 0 && (best == null || l.pass > best.pass)) {
                    best = l;
                }
            }
            return best;
        }

        int liveLanes() {
            int n = 0;
            for (Lane l : lanes) {
                if (l.waiting > 0) {
                    n++;
                }
            }
            return n;
        }

        int takenSizes() {
            int n = 0;
            for (Lane l : lanes) {
                n += l.takenSize;
            }
            return n;
        }

        int weights() {
            int n = 0;
            for (Lane l : lanes) {
                n += l.weight;
            }
            return n;
        }

        void change(Task t, int state) {
            boolean stood = t.stands();
            count(t, -1);
            t.state = state;
            count(t, 1);
            if (stood && !t.stands()) {
                standing.drop(t);
                t.lane.closeIfDrained();
            } else if (!stood && t.stands()) {
                standing.insertByNumber(t);
            }
        }

        void count(Task t, int by) {
            if (t.state < 0 || t.state >= STATES) {
                return;
            }
            counts[t.state] += by;
            if (t.state <= OUT) {
                t.lane.standing += by;
            }
            if (t.state == WAITS) {
                t.lane.waiting += by;
            } else if (t.state == OUT) {
                t.lane.out += by;
            }
        }

        void settle(Task t) {
            boolean held = t.behind != null && t.behind.state != DONE;
            if (!held) {
                liftPass(t.lane);
            }
            change(t, held ? HELD : WAITS);
        }

        void awaitTurn(Task t) {
            liftPass(t.lane);
            change(t, WAITS);
        }

        // A lane that was idle must not win turns by a PASS from long ago.
        void liftPass(Lane l) {
            Lane least = theLane(false);
            if (l.waiting == 0 && least != null) {
                l.pass = Math.max(l.pass, least.pass);
            }
        }

        void transfer(Task t, Lane to) {
            count(t, -1);
            t.lane.closeIfDrained();
            t.lane = to;
            if (t.state == WAITS) {
                liftPass(to);
            }
            count(t, 1);
        }

        Task serve(boolean limited) {
            Lane l = theLane(limited);
            Task t = l == null ? null : least(WAITS, l);
            if (t != null) {
                change(t, OUT);
                l.payFor(t.size);
            }
            return t;
        }

        /** What orders tasks of one state: the least is ahead. */
        int orderOf(Task t) {
            if (t.state == RESTS) {
                return t.due;
            }
            return t.state == OUT ? t.ends : -t.rankBy(rules[AGE]);
        }

        boolean isAhead(Task a, Task b) {
            int x = orderOf(a);
            int y = orderOf(b);
            return x < y || (x == y && a.number < b.number);
        }

        /** Of a state, and of a lane unless that is null. */
        static boolean isOf(Task t, int state, Lane l) {
            return t.state == state && (l == null || t.lane == l);
        }

        Task least(int state, Lane l) {
            Task best = null;
            int bestOrder = 0;
            for (int i = 0; i < standing.size; i++) {
                Task t = standing.items[i];
                if (!isOf(t, state, l)) {
                    continue;
                }
                // The row is by numbers: of like ones the first found stays.
                int order = orderOf(t);
                if (best == null || order < bestOrder) {
                    best = t;
                    bestOrder = order;
                }
            }
            return best;
        }

        Task kth(int state, Lane l, int k) {
            for (int i = 0; i < standing.size; i++) {
                Task t = standing.items[i];
                if (isOf(t, state, l) && countAhead(t, l) == k) {
                    return t;
                }
            }
            return null;
        }

        int countAhead(Task t, Lane l) {
            int n = 0;
            for (int i = 0; i < standing.size; i++) {
                Task other = standing.items[i];
                if (isOf(other, t.state, l) && isAhead(other, t)) {
                    n++;
                }
            }
            return n;
        }

        Task withNumber(int number) {
            for (int i = 0; i < standing.size; i++) {
                if (standing.items[i].number == number) {
                    return standing.items[i];
                }
            }
            return null;
        }

        Task withKey(int key) {
            for (int i = 0; i < standing.size; i++) {
                if (standing.items[i].key == key) {
                    return standing.items[i];
                }
            }
            return null;
        }

        // A trial's tasks are copies, so what is behind is told by its number.
        Task heldBehind(Task before) {
            for (int i = 0; i < standing.size; i++) {
                Task t = standing.items[i];
                if (t.state == HELD && t.behind != null && t.behind.number == before.number) {
                    return t;
                }
            }
            return null;
        }

        Task firstEnding(int tick) {
            for (int i = 0; i < standing.size; i++) {
                if (standing.items[i].endsBy(tick)) {
                    return standing.items[i];
                }
            }
            return null;
        }

        Task firstDue(int tick) {
            Task t = least(RESTS, null);
            return t != null && t.dueBy(tick) ? t : null;
        }

        Task longestWaiting(Lane l) {
            Task best = null;
            for (int i = 0; i < standing.size; i++) {
                Task t = standing.items[i];
                if (isOf(t, WAITS, l) && (best == null || t.came < best.came)) {
                    best = t;
                }
            }
            return best;
        }

        int waitingSizes(Lane l) {
            int n = 0;
            for (int i = 0; i < standing.size; i++) {
                if (isOf(standing.items[i], WAITS, l)) {
                    n += standing.items[i].size;
                }
            }
            return n;
        }
    }

    /** A copy of the board, on which what would be is played out. */
    private static final class Trial {
        final Board board = new Board();
        final Task[] copies = new Task[STANDING];
        final int[] emptied = new int[LANES];
        int start;
        int passed;
        int free;
        int idle;
        int last;

        Trial() {
            for (int i = 0; i < STANDING; i++) {
                copies[i] = new Task(NONE, null, null);
            }
        }

        void load(Board real) {
            for (int i = 0; i < LANES; i++) {
                board.lanes[i].copyFrom(real.lanes[i]);
            }
            System.arraycopy(real.rules, 0, board.rules, 0, board.rules.length);
            System.arraycopy(real.counts, 0, board.counts, 0, STATES);
            board.standing.clear();
            for (int i = 0; i < real.standing.size; i++) {
                Task from = real.standing.items[i];
                copies[i].copyFrom(from, board.laneAt(from.lane.number));
                board.standing.append(copies[i]);
            }
        }

        /** The k-th TAKEN ON. */
        int takenAt(Board real, int k) {
            load(real);
            for (int n = 0; n < STANDING; n++) {
                Task t = board.serve(false);
                if (t == null) {
                    return NONE;
                }
                if (n == k) {
                    return t.number;
                }
            }
            return NONE;
        }

        /** How many are TAKEN ON ahead of a task, once it is in that lane. */
        int turnIn(Board real, Task task, Lane lane) {
            load(real);
            Task mover = board.withNumber(task.number);
            Lane to = board.laneAt(lane.number);
            if (mover != null && to != null && mover.lane != to) {
                board.transfer(mover, to);
            }
            for (int n = 0; n < STANDING; n++) {
                Task t = board.serve(false);
                if (t == null) {
                    return NONE;
                }
                if (t.number == task.number) {
                    return n;
                }
            }
            return NONE;
        }

        /** FINISH by w WORKERS, from one tick at which something happens to the next. */
        void run(Board real, int w, int tick) {
            load(real);
            start = tick;
            passed = 0;
            idle = 0;
            last = NONE;
            Arrays.fill(emptied, 0);
            // As these are DONE, completeEnding counts a free WORKER for each.
            free = w - board.counts[OUT];
            for (int i = 0; i < board.standing.size; i++) {
                board.standing.items[i].ends = tick;
            }
            for (int n = 0; n <= 2 * STANDING; n++) {
                completeEnding();
                wakeDue();
                serveFree();
                int next = nextTick();
                if (next == NONE) {
                    break;
                }
                idle += free * (next - start - passed);
                passed = next - start;
            }
        }

        void completeEnding() {
            for (int n = 0; n < STANDING; n++) {
                Task t = board.firstEnding(start + passed);
                if (t == null) {
                    break;
                }
                board.change(t, DONE);
                free++;
                last = t.number;
                emptied[t.lane.number] = passed;
                releaseBehind(t);
            }
        }

        void releaseBehind(Task before) {
            for (int n = 0; n < STANDING; n++) {
                Task held = board.heldBehind(before);
                if (held == null) {
                    break;
                }
                board.awaitTurn(held);
            }
        }

        void wakeDue() {
            for (int n = 0; n < STANDING; n++) {
                Task t = board.firstDue(start + passed);
                if (t == null) {
                    break;
                }
                board.awaitTurn(t);
            }
        }

        void serveFree() {
            for (int n = 0; n < WORKERS && free > 0; n++) {
                Task t = board.serve(true);
                if (t == null) {
                    break;
                }
                t.ends = start + passed + t.size;
                free--;
            }
        }

        int nextTick() {
            Task ending = board.least(OUT, null);
            Task due = board.least(RESTS, null);
            if (ending == null) {
                return due == null ? NONE : due.due;
            }
            return due == null ? ending.ends : Math.min(ending.ends, due.due);
        }
    }

    /** How often a task of each key went aside by failing; keys rising. */
    private static final class Strikes {
        // A key is struck by a task of it, so there are no more keys than tasks.
        final int[] keys = new int[TASKS];
        final int[] counts = new int[TASKS];
        int size;

        int find(int key) {
            for (int i = 0; i < size; i++) {
                if (keys[i] == key) {
                    return i;
                }
            }
            return NONE;
        }

        int count(int key) {
            int at = find(key);
            return at == NONE ? 0 : counts[at];
        }

        void add(int key) {
            int at = find(key);
            if (at != NONE) {
                counts[at]++;
            } else if (size < keys.length) {
                insert(key);
            }
        }

        void insert(int key) {
            int at = size;
            while (at > 0 && keys[at - 1] > key) {
                keys[at] = keys[at - 1];
                counts[at] = counts[at - 1];
                at--;
            }
            keys[at] = key;
            counts[at] = 1;
            size++;
        }

        void forget(int key) {
            int at = find(key);
            if (at != NONE) {
                counts[at] = 0;
            }
        }

        int kthWith(int least, int k) {
            int n = 0;
            for (int i = 0; i < size; i++) {
                if (counts[i] < least) {
                    continue;
                }
                if (n == k) {
                    return keys[i];
                }
                n++;
            }
            return NONE;
        }
    }

    /** THE LOG: the latest lines, in a ring. */
    private static final class Diary {
        static final int LINES = 64;
        static final int COLUMNS = 6;
        final int[] cells = new int[LINES * COLUMNS];
        // Neither grows with all that was written, so no use is too long for them.
        int next;
        int kept;

        void write(int tick, int what, Task t, int worker, int cause) {
            int at = next * COLUMNS;
            cells[at] = tick;
            cells[at + 1] = what;
            cells[at + 2] = t.number;
            cells[at + 3] = t.lane.number;
            cells[at + 4] = worker;
            cells[at + 5] = cause;
            next = next + 1 < LINES ? next + 1 : 0;
            kept = Math.min(kept + 1, LINES);
        }

        int read(int k, int what) {
            if (k < 0 || k >= kept || what < 0 || what >= COLUMNS) {
                return NO_LINE;
            }
            int line = next - 1 - k;
            return cells[(line < 0 ? line + LINES : line) * COLUMNS + what];
        }
    }

    private static final class Draws {
        long x;

        int next(int m) {
            x = (1103515245L * x + 12345L) & 0x7fffffffL;
            return m < 1 ? 0 : (int) (x / 64 % m);
        }
    }
}
