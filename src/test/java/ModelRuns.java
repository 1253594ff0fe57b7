import java.util.ArrayList;
import java.util.Arrays;
import java.util.Comparator;
import java.util.HashMap;
import java.util.List;
import java.util.Map;
import java.util.Random;
import java.util.TreeSet;

/**
 * Random runs of calls, each answer compared with that of a plain model of the document,
 * which plays "what would be" tick by tick on whole copies of itself.
 */
public final class ModelRuns {
    private static final int RUNS = 600;
    private static final int CALLS = 512;
    private static final String[] WORK = {"put", "take", "done", "fail", "beat", "back", "hand", "every", "stop",
        "tick", "drain", "open", "cancel", "move", "raise", "again", "discard", "arrange", "rule", "pardon", "steps"};
    private static final String[] ASK = {"store", "lane", "task", "rank", "cause", "worker", "timer", "waiting", "keyed",
        "resting", "aside", "ending", "strikes", "banned", "waits", "share", "path", "ahead", "turnOf", "bestLane",
        "chain", "lapse", "safe", "finish", "empties", "enough", "hangs", "spread", "blamed", "worst", "log"};

    private static int wrong = 0;
    // What a run is like: of how many keys its tasks are, how much of its work fails.
    private static int keys;
    private static int failures;
    // A run of few tasks, that fail over and over, beyond the causes that are kept.
    private static boolean grinding;
    private static int mostCauses = 0;
    // A run of so many steps and timers that there are 400 tasks, 12 timers in the end.
    private static boolean flooding;
    private static int mostTasks = 0;
    private static int mostTimers = 0;

    public static void main(String[] args) {
        long answers = 0;
        Map<String, Integer> seen = new HashMap<>();
        for (int run = 0; run < RUNS && wrong < 20; run++) {
            answers += oneRun(run, seen);
        }
        for (String name : WORK) {
            mustHaveSeen(seen, name);
        }
        for (String name : ASK) {
            mustHaveSeen(seen, name);
        }
        mustHaveReached("causes of one task", mostCauses, 25);
        mustHaveReached("tasks", mostTasks, 400);
        mustHaveReached("timers", mostTimers, 12);
        System.out.println(answers + " answers compared, " + wrong + " wrong");
        if (wrong != 0) {
            System.exit(1);
        }
    }

    private static void mustHaveSeen(Map<String, Integer> seen, String name) {
        if (seen.getOrDefault(name, 0) < 2) {
            wrong++;
            System.out.println("the runs hardly used " + name);
        }
    }

    private static void mustHaveReached(String what, int most, int need) {
        if (most < need) {
            wrong++;
            System.out.println("the runs had no more " + what + " than " + most);
        }
    }

    private static int oneRun(int run, Map<String, Integer> seen) {
        Random random = new Random(run);
        LaneStore store = new LaneStore();
        Model model = new Model();
        int asks = random.nextInt(4) * 25;
        int stepping = random.nextInt(3);
        keys = new int[] {5, 20, 60, 9999}[random.nextInt(4)];
        failures = random.nextInt(4);
        grinding = run % 6 == 5;
        flooding = run % 30 == 4;
        asks = grinding ? 10 : flooding ? 25 : asks;
        for (int i = 0; i < CALLS; i++) {
            String name;
            int[] a;
            if (random.nextInt(100) < asks) {
                name = ASK[random.nextInt(ASK.length)];
                a = askArguments(name, random, model);
            } else {
                name = grinding ? grindName(random, model) : flooding ? floodName(random) : workName(random, stepping);
                a = workArguments(name, random, model);
            }
            long got = call(store, name, a);
            long want = model.call(name, a);
            if (want >= -1) {
                seen.merge(name, 1, Integer::sum);
            }
            if (got != want) {
                wrong++;
                System.out.println("run " + run + " call " + i + ": " + name + Arrays.toString(a)
                    + " answered " + got + ", due is " + want);
                return i;
            }
        }
        mostTasks = Math.max(mostTasks, model.tasks.size());
        mostTimers = Math.max(mostTimers, model.timers.size());
        for (T t : model.tasks) {
            mostCauses = Math.max(mostCauses, t.causes.size());
        }
        return CALLS + (run % 4 == 0 || grinding ? sweep(run, store, model) : 0);
    }

    // An object may be used for 512 calls, but this one may be asked on: nothing in it counts calls.
    private static int sweep(int run, LaneStore store, Model model) {
        int n = 0;
        for (String name : ASK) {
            int[] first = {-1, 0, 1, 2, 3, 4, 5, 6, 7, 13, 40, 99, 100, 101, 399};
            for (int x : first) {
                for (int y = -1; y <= 13; y++) {
                    int[] a = {x, y};
                    long got = call(store, name, a);
                    long want = model.call(name, a);
                    n++;
                    if (got != want) {
                        wrong++;
                        System.out.println("run " + run + " at last: " + name + Arrays.toString(a)
                            + " answered " + got + ", due is " + want);
                        return n;
                    }
                }
            }
        }
        return n;
    }

    private static String workName(Random random, int stepping) {
        int r = random.nextInt(100);
        if (r < 30) {
            return "put";
        }
        if (r < 45) {
            return "take";
        }
        if (r < 60) {
            return random.nextInt(4) < failures ? "fail" : "done";
        }
        if (r < 66) {
            return "tick";
        }
        if (r < 70) {
            return random.nextBoolean() ? "open" : "again";
        }
        if (r < 80 && stepping == 0) {
            return "steps";
        }
        String name = WORK[random.nextInt(WORK.length)];
        return stepping == 2 && name.equals("steps") ? "raise" : name;
    }

    private static String grindName(Random random, Model model) {
        if (model.tasks.size() < 3) {
            return "put";
        }
        if (random.nextInt(25) == 0) {
            return workName(random, 2);
        }
        if (model.count(3, -1) > 0) {
            return "fail";
        }
        if (model.count(0, -1) > 0) {
            return "take";
        }
        return model.count(2, -1) > 0 ? "tick" : random.nextInt(3) == 0 ? "pardon" : "again";
    }

    private static String floodName(Random random) {
        int r = random.nextInt(100);
        return r < 35 ? "steps" : r < 40 ? "every" : r < 60 ? "put" : workName(random, 0);
    }

    private static int someTask(Random random, Model model) {
        int n = model.tasks.size();
        if (n == 0 || random.nextInt(30) == 0) {
            return random.nextInt(404) - 2;
        }
        return random.nextInt(3) == 0 ? random.nextInt(n) : Math.max(0, n - 1 - random.nextInt(20));
    }

    private static int off(Random random, int least, int most) {
        int r = random.nextInt(60);
        if (r == 0) {
            return least - 1;
        }
        if (r == 1) {
            return most + 1;
        }
        if (r == 2) {
            return random.nextBoolean() ? Integer.MIN_VALUE : Integer.MAX_VALUE;
        }
        return least + random.nextInt(most - least + 1);
    }

    private static int someKey(Random random) {
        return random.nextInt(10) == 0 ? off(random, 0, 9999) : random.nextInt(keys);
    }

    private static int tokenOf(Random random, Model model, int worker) {
        if (worker < 0 || worker > 5 || random.nextInt(20) == 0) {
            return random.nextInt(5);
        }
        return model.workers[worker].task == null ? 0 : model.workers[worker].task.token;
    }

    private static int someWorker(Random random, Model model) {
        int w = off(random, 0, 5);
        for (int i = 0; i < 3 && w >= 0 && w <= 5 && model.workers[w].task == null; i++) {
            w = random.nextInt(6);
        }
        return w;
    }

    private static int[] workArguments(String name, Random random, Model model) {
        int w;
        switch (name) {
            case "put":
                return new int[] {off(random, 0, 4), off(random, 0, 9), off(random, 1, 20), someKey(random),
                    random.nextInt(3) > 0 ? -1 : someTask(random, model)};
            case "take": case "stop":
                return new int[] {name.equals("take") ? off(random, 0, 5) : off(random, 0, 11)};
            case "done": case "beat": case "back":
                w = someWorker(random, model);
                return new int[] {w, tokenOf(random, model, w)};
            case "fail": case "hand":
                w = someWorker(random, model);
                return new int[] {w, tokenOf(random, model, w),
                    name.equals("hand") ? off(random, 0, 5) : off(random, 1, random.nextBoolean() ? 3 : 99)};
            case "every":
                return new int[] {off(random, 0, 4), off(random, 0, 9), off(random, 1, 20), someKey(random), off(random, 1, 99)};
            case "tick":
                return new int[] {random.nextInt(3) > 0 ? 1 + random.nextInt(4) : off(random, 1, 99)};
            case "drain": case "open":
                return new int[] {off(random, 0, 4)};
            case "cancel":
                return new int[] {someTask(random, model)};
            case "again": case "discard": {
                int n = model.aside.size();
                boolean any = n == 0 || random.nextInt(5) == 0;
                return new int[] {any ? someTask(random, model) : model.aside.get(random.nextInt(n)).number};
            }
            case "move":
                return new int[] {someTask(random, model), off(random, 0, 4)};
            case "raise":
                return new int[] {someTask(random, model), off(random, 0, 9)};
            case "arrange": {
                int what = off(random, 0, 2);
                int[] top = {9, 32, 6};
                return new int[] {off(random, 0, 4), what, what < 0 || what > 2 ? 1 : off(random, 1, top[what])};
            }
            case "rule": {
                int what = off(random, 0, 5);
                int[] top = {99, 99, 20, 9, 48, 9};
                int v = what < 0 || what > 5 ? 1 : off(random, 1, top[what]);
                boolean most = what == 4 && random.nextBoolean();
                boolean few = (what == 3 || what == 5) && random.nextBoolean();
                return new int[] {what, most ? 48 : few ? 1 + random.nextInt(2) : v};
            }
            case "pardon": {
                List<Integer> struck = new ArrayList<>(new TreeSet<>(model.strikes.keySet()));
                boolean any = struck.isEmpty() || random.nextInt(5) == 0;
                return new int[] {any ? someKey(random) : struck.get(random.nextInt(struck.size()))};
            }
            default:
                return new int[] {off(random, 0, Integer.MAX_VALUE - 10) & (random.nextInt(9) == 0 ? -1 : Integer.MAX_VALUE),
                    off(random, 1, 60)};
        }
    }

    private static int[] askArguments(String name, Random random, Model model) {
        switch (name) {
            case "store": return new int[] {off(random, 0, 18)};
            case "lane": return new int[] {off(random, 0, 4), off(random, 0, 9)};
            case "task": return new int[] {someTask(random, model), off(random, 0, 12)};
            case "cause": return new int[] {someTask(random, model), off(random, -1, 3)};
            case "worker": return new int[] {off(random, 0, 5), off(random, 0, 5)};
            case "timer": return new int[] {off(random, 0, 11), off(random, 0, 7)};
            case "waiting": return new int[] {off(random, 0, 4), off(random, 0, 8)};
            case "keyed": case "strikes": return new int[] {someKey(random)};
            case "resting": case "aside": case "ending": case "banned": return new int[] {off(random, 0, 4)};
            case "waits": return new int[] {off(random, 0, 4), off(random, 0, 2)};
            case "share": return new int[] {off(random, 0, 4), off(random, 0, 4)};
            case "path": return new int[] {someTask(random, model), off(random, 0, 4)};
            case "ahead": return new int[] {off(random, 0, 30)};
            case "bestLane": case "chain": return new int[] {someTask(random, model), off(random, 0, 1)};
            case "lapse": return new int[] {off(random, 1, 99), off(random, 0, 2)};
            case "finish": return new int[] {off(random, 1, 6), off(random, 0, 2)};
            case "empties": return new int[] {off(random, 0, 4), off(random, 1, 6)};
            case "enough": return new int[] {off(random, 0, 200)};
            case "spread": return new int[] {off(random, 0, 2)};
            case "blamed": return new int[] {off(random, 0, 101)};
            case "worst": return new int[] {};
            case "log": return new int[] {off(random, 0, 63), off(random, 0, 5)};
            default: return new int[] {someTask(random, model)};
        }
    }

    private static long call(LaneStore x, String name, int[] a) {
        switch (name) {
            case "put": return x.put(a[0], a[1], a[2], a[3], a[4]);
            case "take": return x.take(a[0]);
            case "done": return x.done(a[0], a[1]);
            case "fail": return x.fail(a[0], a[1], a[2]);
            case "beat": return x.beat(a[0], a[1]);
            case "back": return x.back(a[0], a[1]);
            case "hand": return x.hand(a[0], a[1], a[2]);
            case "every": return x.every(a[0], a[1], a[2], a[3], a[4]);
            case "stop": return x.stop(a[0]);
            case "tick": return x.tick(a[0]);
            case "drain": return x.drain(a[0]);
            case "open": return x.open(a[0]);
            case "cancel": return x.cancel(a[0]);
            case "move": return x.move(a[0], a[1]);
            case "raise": return x.raise(a[0], a[1]);
            case "again": return x.again(a[0]);
            case "discard": return x.discard(a[0]);
            case "arrange": return x.arrange(a[0], a[1], a[2]);
            case "rule": return x.rule(a[0], a[1]);
            case "pardon": return x.pardon(a[0]);
            case "steps": return x.steps(a[0], a[1]);
            case "store": return x.store(a[0]);
            case "lane": return x.lane(a[0], a[1]);
            case "task": return x.task(a[0], a[1]);
            case "rank": return x.rank(a[0]);
            case "cause": return x.cause(a[0], a[1]);
            case "worker": return x.worker(a[0], a[1]);
            case "timer": return x.timer(a[0], a[1]);
            case "waiting": return x.waiting(a[0], a[1]);
            case "keyed": return x.keyed(a[0]);
            case "resting": return x.resting(a[0]);
            case "aside": return x.aside(a[0]);
            case "ending": return x.ending(a[0]);
            case "strikes": return x.strikes(a[0]);
            case "banned": return x.banned(a[0]);
            case "waits": return x.waits(a[0], a[1]);
            case "share": return x.share(a[0], a[1]);
            case "path": return x.path(a[0], a[1]);
            case "ahead": return x.ahead(a[0]);
            case "turnOf": return x.turnOf(a[0]);
            case "bestLane": return x.bestLane(a[0], a[1]);
            case "chain": return x.chain(a[0], a[1]);
            case "lapse": return x.lapse(a[0], a[1]);
            case "safe": return x.safe(a[0]);
            case "finish": return x.finish(a[0], a[1]);
            case "empties": return x.empties(a[0], a[1]);
            case "enough": return x.enough(a[0]);
            case "hangs": return x.hangs(a[0]);
            case "spread": return x.spread(a[0]);
            case "blamed": return x.blamed(a[0]);
            case "worst": return x.worst();
            case "log": return x.log(a[0], a[1]);
            default: throw new IllegalStateException(name);
        }
    }

    /** A task of the model. */
    private static final class T {
        int number, lane, priority, size, key, behind, came, is, tried, due, worker, token, ends, doneAt = -1;
        // Every one; of how many of them cause tells is its own matter.
        List<Integer> causes = new ArrayList<>();

        T copy() {
            T t = new T();
            t.number = number; t.lane = lane; t.priority = priority; t.size = size; t.key = key; t.behind = behind;
            t.came = came; t.is = is; t.tried = tried; t.due = due; t.worker = worker; t.token = token; t.ends = ends;
            t.doneAt = doneAt; t.causes = new ArrayList<>(causes);
            return t;
        }

        boolean stands() {
            return is <= 3;
        }
    }

    private static final class W {
        T task;
        int took, done, failed;
    }

    /** The document, played as plainly as can be: everything is counted anew when it is asked. */
    private static final class Model {
        int now, token, refused;
        int[] rules = {8, 10, 2, 3, 32, 2};
        int[][] lanes = {{1, 12, 6}, {1, 12, 6}, {1, 12, 6}, {1, 12, 6}, {1, 12, 6}};
        int[] openness = new int[5];
        long[] pass = new long[5];
        List<T> tasks = new ArrayList<>();
        List<T> aside = new ArrayList<>();
        W[] workers = {new W(), new W(), new W(), new W(), new W(), new W()};
        List<int[]> timers = new ArrayList<>();
        Map<Integer, Integer> strikes = new HashMap<>();
        List<int[]> log = new ArrayList<>();
        List<int[]> takings = new ArrayList<>();
        boolean limited = true;

        Model copy() {
            Model m = new Model();
            m.now = now; m.token = token;
            m.rules = rules.clone();
            for (int i = 0; i < 5; i++) {
                m.lanes[i] = lanes[i].clone();
            }
            m.openness = openness.clone();
            m.pass = pass.clone();
            for (T t : tasks) {
                T c = t.copy();
                m.tasks.add(c);
                if (c.is == 3) {
                    m.workers[c.worker].task = c;
                }
            }
            for (T t : aside) {
                m.aside.add(m.tasks.get(t.number));
            }
            return m;
        }

        long call(String name, int[] a) {
            if (Arrays.asList(WORK).contains(name)) {
                finishes.clear();
            }
            long answer = answer(name, a);
            if (answer < -1 && Arrays.asList(WORK).contains(name)) {
                boolean isRank = name.equals("raise") && answer != -2 && answer != -3;
                if (name.equals("raise") && !isRank) {
                    isRank = raised;
                }
                if (!isRank) {
                    refused++;
                }
            }
            return answer;
        }

        boolean raised;

        T task(int n) {
            return n < 0 || n >= tasks.size() ? null : tasks.get(n);
        }

        boolean in(int v, int least, int most) {
            return v >= least && v <= most;
        }

        int count(int is, int lane) {
            int n = 0;
            for (T t : tasks) {
                if (t.is == is && (lane < 0 || t.lane == lane)) {
                    n++;
                }
            }
            return n;
        }

        int stand(int lane) {
            return count(0, lane) + count(1, lane) + count(2, lane) + count(3, lane);
        }

        boolean live(int lane) {
            return count(0, lane) > 0;
        }

        long rank(T t) {
            return (long) t.priority * rules[0] - t.came;
        }

        void close() {
            for (int i = 0; i < 5; i++) {
                if (openness[i] == 1 && stand(i) == 0) {
                    openness[i] = 2;
                }
            }
        }

        void line(int what, T t, int worker, int cause) {
            log.add(new int[] {now, what, t.number, t.lane, worker, cause});
        }

        void waitNow(T t) {
            t.is = 7;
            if (!live(t.lane)) {
                long least = Long.MAX_VALUE;
                for (int i = 0; i < 5; i++) {
                    if (live(i)) {
                        least = Math.min(least, pass[i]);
                    }
                }
                if (least != Long.MAX_VALUE) {
                    pass[t.lane] = Math.max(pass[t.lane], least);
                }
            }
            t.is = 0;
        }

        boolean keyStands(int key) {
            for (T t : tasks) {
                if (t.stands() && t.key == key) {
                    return true;
                }
            }
            return false;
        }

        boolean room(int lane) {
            return stand(lane) < lanes[lane][1] && stand(-1) < rules[4];
        }

        boolean ban(int key) {
            return strikes.getOrDefault(key, 0) >= rules[5];
        }

        int put(int lane, int priority, int size, int key, int behind) {
            TreeSet<Integer> no = new TreeSet<>();
            T b = task(behind);
            if (!in(lane, 0, 4) || !in(priority, 0, 9) || !in(size, 1, 20) || !in(key, 0, 9999)
                || behind != -1 && (b == null || b.is == 6)) {
                no.add(-2);
            }
            if (in(lane, 0, 4) && openness[lane] != 0 || b != null && b.is == 5) {
                no.add(-3);
            }
            if (in(lane, 0, 4) && !room(lane)) {
                no.add(-4);
            }
            if (keyStands(key)) {
                no.add(-5);
            }
            if (tasks.size() >= 400) {
                no.add(-6);
            }
            if (ban(key)) {
                no.add(-7);
            }
            if (!no.isEmpty()) {
                return no.last();
            }
            T t = new T();
            t.number = tasks.size(); t.lane = lane; t.priority = priority; t.size = size; t.key = key;
            t.behind = behind; t.came = now; t.is = 7;
            tasks.add(t);
            line(0, t, -1, 0);
            arrive(t);
            return t.number;
        }

        void arrive(T t) {
            if (t.behind >= 0 && tasks.get(t.behind).is != 4) {
                t.is = 1;
            } else {
                waitNow(t);
            }
        }

        T first(int lane) {
            T best = null;
            for (T t : tasks) {
                if (t.is == 0 && t.lane == lane && (best == null || rank(t) > rank(best))) {
                    best = t;
                }
            }
            return best;
        }

        int theLane() {
            int best = -1;
            for (int i = 0; i < 5; i++) {
                boolean may = live(i) && (!limited || count(3, i) < lanes[i][2]);
                if (may && (best < 0 || pass[i] < pass[best])) {
                    best = i;
                }
            }
            return best;
        }

        T takeNext() {
            int lane = theLane();
            if (lane < 0) {
                return null;
            }
            T t = first(lane);
            t.is = 3;
            pass[lane] += 2520L * t.size / lanes[lane][0];
            return t;
        }

        int take(int w) {
            if (!in(w, 0, 5)) {
                return -2;
            }
            if (workers[w].task != null) {
                return -3;
            }
            T t = takeNext();
            if (t == null) {
                return -1;
            }
            token++;
            t.token = token; t.worker = w; t.ends = now + rules[1];
            workers[w].task = t;
            workers[w].took++;
            takings.add(new int[] {t.lane, t.size, now - t.came, t.number});
            line(1, t, w, 0);
            return t.number;
        }

        T held(int w, int token) {
            T t = in(w, 0, 5) ? workers[w].task : null;
            return t != null && t.token == token ? t : null;
        }

        void isDone(T t) {
            int w = t.worker;
            workers[w].task = null;
            workers[w].done++;
            t.is = 4;
            t.doneAt = now;
            line(2, t, w, 0);
            freeBehind(t);
            close();
        }

        void freeBehind(T t) {
            for (T u : tasks) {
                if (u.is == 1 && u.behind == t.number) {
                    waitNow(u);
                    line(5, u, -1, 0);
                }
            }
        }

        void fails(T t, int cause) {
            int w = t.worker;
            workers[w].task = null;
            workers[w].failed++;
            t.tried++;
            t.causes.add(cause);
            line(3, t, w, cause);
            if (t.tried >= rules[3]) {
                strikes.merge(t.key, 1, Integer::sum);
                t.is = 5;
                aside.add(t);
                line(4, t, -1, cause);
                fall(List.of(t.number), 100);
            } else {
                t.is = 2;
                t.due = now + rules[2] * (int) Math.pow(2, t.tried - 1);
            }
            close();
        }

        int fall(List<Integer> roots, int cause) {
            List<Integer> next = new ArrayList<>();
            for (T t : tasks) {
                if (t.is == 1 && roots.contains(t.behind)) {
                    next.add(t.number);
                }
            }
            for (int n : next) {
                T t = tasks.get(n);
                t.is = 5;
                aside.add(t);
                t.causes.add(cause);
                line(4, t, -1, cause);
            }
            return next.isEmpty() ? 0 : next.size() + fall(next, 100);
        }

        int[] tickOnce() {
            int[] events = new int[3];
            now++;
            int asides = aside.size();
            for (T t : tasks) {
                if (t.is == 3 && t.ends <= now) {
                    fails(t, 0);
                    events[0]++;
                }
            }
            events[1] = aside.size() - asides;
            for (T t : sorted(2, -1)) {
                if (t.due <= now) {
                    waitNow(t);
                    line(5, t, -1, 0);
                    events[2]++;
                }
            }
            for (int[] r : timers) {
                if (r[7] == now) {
                    r[7] += r[4];
                    r[put(r[0], r[1], r[2], r[3], -1) >= 0 ? 5 : 6]++;
                }
            }
            close();
            return events;
        }

        List<T> sorted(int is, int lane) {
            List<T> all = new ArrayList<>();
            for (T t : tasks) {
                if (t.is == is && (lane < 0 || t.lane == lane)) {
                    all.add(t);
                }
            }
            Comparator<T> by = is == 2 ? Comparator.comparingInt((T t) -> t.due)
                : is == 3 ? Comparator.comparingInt((T t) -> t.ends) : Comparator.comparingLong((T t) -> -rank(t));
            all.sort(by.thenComparingInt(t -> t.number));
            return all;
        }

        int move(int task, int lane) {
            T t = task(task);
            if (t == null || !in(lane, 0, 4)) {
                return -2;
            }
            if (t.is > 2 || t.lane == lane || openness[lane] != 0) {
                return -3;
            }
            if (stand(lane) >= lanes[lane][1]) {
                return -4;
            }
            int is = t.is;
            t.is = 7;
            t.lane = lane;
            if (is == 0) {
                waitNow(t);
            } else {
                t.is = is;
            }
            line(7, t, -1, 0);
            close();
            return 0;
        }

        long raise(int task, int priority) {
            raised = false;
            T t = task(task);
            if (t == null || !in(priority, 0, 9)) {
                return -2;
            }
            if (t.is > 2 || t.priority == priority) {
                return -3;
            }
            t.priority = priority;
            raised = true;
            return rank(t);
        }

        int again(int task) {
            T t = task(task);
            if (t == null) {
                return -2;
            }
            T b = task(t.behind);
            if (t.is != 5 || openness[t.lane] != 0 || b != null && (b.is == 5 || b.is == 6)) {
                return -3;
            }
            if (!room(t.lane)) {
                return -4;
            }
            if (keyStands(t.key)) {
                return -5;
            }
            if (ban(t.key)) {
                return -7;
            }
            aside.remove(t);
            t.tried = 0;
            arrive(t);
            line(8, t, -1, 0);
            return t.is;
        }

        long x;

        int draw(int m) {
            x = (1103515245L * x + 12345L) % (1L << 31);
            return (int) (x / 64 % m);
        }

        boolean step() {
            int d = draw(10);
            if (d <= 2) {
                int lane = draw(5);
                int priority = draw(10);
                int size = draw(20) + 1;
                return put(lane, priority, size, draw(10000), -1) >= 0;
            }
            if (d <= 4) {
                return take(draw(6)) >= 0;
            }
            if (d <= 6) {
                T t = workers[draw(6)].task;
                if (t != null) {
                    isDone(t);
                }
                return t != null;
            }
            if (d == 7) {
                T t = workers[draw(6)].task;
                int cause = draw(99) + 1;
                if (t != null) {
                    fails(t, cause);
                }
                return t != null;
            }
            if (d == 8) {
                tickOnce();
                return true;
            }
            int task = draw(400);
            raise(task, draw(10));
            return raised;
        }

        // Till the next work is called nothing of it changes.
        Map<Integer, int[]> finishes = new HashMap<>();

        int[] finish(int w) {
            return finishes.computeIfAbsent(w, this::finishAnew);
        }

        /** Ticks, the last, idle ticks, then for each lane when it is empty. */
        int[] finishAnew(int w) {
            Model m = copy();
            int[] answer = {0, -1, 0, 0, 0, 0, 0, 0};
            for (T t : m.tasks) {
                if (t.is == 3) {
                    m.isDone(t);
                    answer[1] = t.number;
                }
            }
            T[] has = new T[w];
            boolean[] stood = new boolean[5];
            for (int i = 0; i < 5; i++) {
                stood[i] = m.stand(i) > 0;
            }
            int begin = m.now;
            for (int at = 0; at < 20000; at++) {
                m.now = begin + at;
                for (T t : m.tasks) {
                    for (int i = 0; i < w; i++) {
                        if (has[i] == t && t.ends == m.now) {
                            has[i] = null;
                            t.is = 4;
                            m.freeBehind(t);
                            answer[1] = t.number;
                        }
                    }
                }
                for (T t : m.sorted(2, -1)) {
                    if (t.due <= m.now) {
                        m.waitNow(t);
                    }
                }
                for (int i = 0; i < w; i++) {
                    if (has[i] == null) {
                        has[i] = m.takeNext();
                        if (has[i] != null) {
                            has[i].ends = m.now + has[i].size;
                        }
                    }
                }
                for (int i = 0; i < 5; i++) {
                    if (stood[i] && m.stand(i) == 0) {
                        stood[i] = false;
                        answer[3 + i] = at;
                    }
                }
                if (m.stand(-1) == 0) {
                    answer[0] = at;
                    return answer;
                }
                for (int i = 0; i < w; i++) {
                    answer[2] += has[i] == null ? 1 : 0;
                }
            }
            throw new IllegalStateException("no end");
        }

        List<Integer> takenOn() {
            Model m = copy();
            m.limited = false;
            List<Integer> all = new ArrayList<>();
            for (T t = m.takeNext(); t != null; t = m.takeNext()) {
                all.add(t.number);
            }
            return all;
        }

        int best(int task, int what) {
            T t = task(task);
            if (t == null || t.is != 0 || !in(what, 0, 1)) {
                return -1;
            }
            int best = -1;
            int fewest = 1000;
            for (int i = 0; i < 5; i++) {
                Model m = copy();
                if (i != t.lane && m.move(task, i) != 0) {
                    continue;
                }
                int turn = m.takenOn().indexOf(task);
                if (turn < fewest) {
                    fewest = turn;
                    best = i;
                }
            }
            return what == 0 ? best : fewest;
        }

        int hang(int n) {
            int all = 0;
            for (T t : tasks) {
                if (t.behind == n && (t.stands() || t.is == 5)) {
                    all += 1 + hang(t.number);
                }
            }
            return all;
        }

        int safe(T t) {
            for (int s = now; ; s++) {
                boolean overtaken = false;
                for (int p = 0; p <= 9; p++) {
                    overtaken |= (long) p * rules[0] - s > rank(t);
                }
                if (!overtaken) {
                    return s;
                }
            }
        }

        int at(List<Integer> all, int k) {
            return k < 0 || k >= all.size() ? -1 : all.get(k);
        }

        int numberAt(List<T> all, int k) {
            return k < 0 || k >= all.size() ? -1 : all.get(k).number;
        }

        int latest(T t) {
            return t.causes.get(t.causes.size() - 1);
        }

        int blamed(int cause) {
            int n = 0;
            for (T t : aside) {
                n += latest(t) == cause ? 1 : 0;
            }
            return n;
        }

        long answer(String name, int[] a) {
            int p = a.length > 0 ? a[0] : 0;
            int q = a.length > 1 ? a[1] : 0;
            T t = task(p);
            switch (name) {
                case "put": return put(p, q, a[2], a[3], a[4]);
                case "take": return take(p);
                case "done": case "beat": case "back": case "fail": case "hand": return workersCall(name, p, q, a);
                case "every":
                    if (!in(p, 0, 4) || !in(q, 0, 9) || !in(a[2], 1, 20) || !in(a[3], 0, 9999) || !in(a[4], 1, 99)) {
                        return -2;
                    }
                    if (timers.size() == 12) {
                        return -6;
                    }
                    timers.add(new int[] {p, q, a[2], a[3], a[4], 0, 0, now + a[4]});
                    return timers.size() - 1;
                case "stop":
                    if (!in(p, 0, timers.size() - 1)) {
                        return -2;
                    }
                    if (timers.get(p)[7] == -1) {
                        return -3;
                    }
                    timers.get(p)[7] = -1;
                    return timers.get(p)[5];
                case "tick":
                    if (!in(p, 1, 99)) {
                        return -2;
                    }
                    for (int i = 0; i < p; i++) {
                        tickOnce();
                    }
                    return now;
                case "drain":
                    if (!in(p, 0, 4)) {
                        return -2;
                    }
                    if (openness[p] != 0) {
                        return -3;
                    }
                    openness[p] = 1;
                    close();
                    return stand(p);
                case "open":
                    if (!in(p, 0, 4)) {
                        return -2;
                    }
                    if (openness[p] == 0) {
                        return -3;
                    }
                    openness[p] = 0;
                    return 0;
                case "cancel":
                    if (t == null) {
                        return -2;
                    }
                    if (t.is > 2) {
                        return -3;
                    }
                    t.is = 6;
                    line(6, t, -1, 0);
                    int fell = fall(List.of(p), 101);
                    close();
                    return fell;
                case "move": return move(p, q);
                case "raise": return raise(p, q);
                case "again": return again(p);
                case "discard":
                    if (t == null) {
                        return -2;
                    }
                    if (t.is != 5) {
                        return -3;
                    }
                    t.is = 6;
                    aside.remove(t);
                    line(6, t, -1, 0);
                    return aside.size();
                case "arrange": {
                    int[] top = {9, 32, 6};
                    if (!in(p, 0, 4) || !in(q, 0, 2) || !in(a[2], 1, top[q])) {
                        return -2;
                    }
                    int was = lanes[p][q];
                    lanes[p][q] = a[2];
                    return was;
                }
                case "rule": {
                    int[] top = {99, 99, 20, 9, 48, 9};
                    if (!in(p, 0, 5) || !in(q, 1, top[p])) {
                        return -2;
                    }
                    int was = rules[p];
                    rules[p] = q;
                    return was;
                }
                case "pardon": {
                    if (!in(p, 0, 9999)) {
                        return -2;
                    }
                    Integer had = strikes.remove(p);
                    return had == null ? -3 : had;
                }
                case "steps": {
                    if (p < 0 || !in(q, 1, 60)) {
                        return -2;
                    }
                    x = p;
                    int were = 0;
                    for (int i = 0; i < q; i++) {
                        were += step() ? 1 : 0;
                    }
                    return were;
                }
                default: return asked(name, p, q, t);
            }
        }

        long workersCall(String name, int w, int tok, int[] a) {
            boolean noSuch = !in(w, 0, 5) || name.equals("fail") && !in(a[2], 1, 99)
                || name.equals("hand") && !in(a[2], 0, 5);
            if (noSuch) {
                return -2;
            }
            T t = held(w, tok);
            if (t == null || name.equals("hand") && workers[a[2]].task != null) {
                return -3;
            }
            switch (name) {
                case "done":
                    isDone(t);
                    return t.number;
                case "beat":
                    t.ends = now + rules[1];
                    return t.ends;
                case "back":
                    workers[w].task = null;
                    waitNow(t);
                    line(5, t, -1, 0);
                    return t.number;
                case "fail":
                    fails(t, a[2]);
                    return t.is;
                default:
                    workers[w].task = null;
                    workers[a[2]].task = t;
                    t.worker = a[2];
                    t.ends = now + rules[1];
                    return t.number;
            }
        }

        long asked(String name, int p, int q, T t) {
            switch (name) {
                case "store":
                    if (in(p, 1, 7)) {
                        return count(p - 1, -1);
                    }
                    if (in(p, 13, 18)) {
                        return rules[p - 13];
                    }
                    int live = 0;
                    for (int i = 0; i < 5; i++) {
                        live += live(i) ? 1 : 0;
                    }
                    return p == 0 ? now : p == 8 ? tasks.size() : p == 9 ? stand(-1) : p == 10 ? refused
                        : p == 11 ? token : p == 12 ? live : -1;
                case "lane":
                    if (!in(p, 0, 4) || !in(q, 0, 9)) {
                        return -1;
                    }
                    return new long[] {lanes[p][0], lanes[p][1], openness[p], pass[p], count(0, p), stand(p), taken(p, 1),
                        taken(p, 0), lanes[p][2], count(3, p)}[q];
                case "task":
                    if (t == null || !in(q, 0, 12)) {
                        return -1;
                    }
                    boolean out = t.is == 3;
                    return new int[] {t.lane, t.priority, t.size, t.key, t.behind, t.came, t.is, t.tried, t.is == 2 ? t.due : -1,
                        out ? t.worker : -1, out ? t.token : -1, out ? t.ends : -1, t.doneAt}[q];
                case "rank": return t == null ? -1000000 : rank(t);
                case "cause": return t == null ? -1 : q == -1 ? Math.min(t.causes.size(), 20) : q < 20 ? at(t.causes, q) : -1;
                case "worker":
                    if (!in(p, 0, 5) || !in(q, 0, 5)) {
                        return -1;
                    }
                    T h = workers[p].task;
                    return new int[] {h == null ? -1 : h.number, h == null ? -1 : h.token, h == null ? -1 : h.ends,
                        workers[p].took, workers[p].done, workers[p].failed}[q];
                case "timer": return in(p, 0, timers.size() - 1) && in(q, 0, 7) ? timers.get(p)[q] : -1;
                case "waiting": return in(p, 0, 4) ? numberAt(sorted(0, p), q) : -1;
                case "keyed":
                    for (T u : tasks) {
                        if (u.stands() && u.key == p) {
                            return u.number;
                        }
                    }
                    return -1;
                case "resting": return numberAt(sorted(2, -1), p);
                case "aside": return numberAt(aside, p);
                case "ending": return numberAt(sorted(3, -1), p);
                case "strikes": return in(p, 0, 9999) ? strikes.getOrDefault(p, 0) : -1;
                case "banned": {
                    List<Integer> keys = new ArrayList<>();
                    for (int key : new TreeSet<>(strikes.keySet())) {
                        if (ban(key)) {
                            keys.add(key);
                        }
                    }
                    return at(keys, p);
                }
                case "waits": return waits(p, q);
                case "share": return share(p, q);
                case "path":
                    for (int i = 0; t != null && i < q; i++) {
                        t = task(t.behind);
                    }
                    return t == null || q < 0 ? -1 : t.number;
                default: return wouldBe(name, p, q, t);
            }
        }

        long taken(int lane, int what) {
            long n = 0;
            for (int[] taking : takings) {
                if (taking[0] == lane || lane < 0) {
                    n += what == 0 ? 1 : taking[what];
                }
            }
            return n;
        }

        long waits(int lane, int what) {
            if (!in(lane, 0, 4) || !in(what, 0, 2)) {
                return -1;
            }
            int most = -1;
            int task = -1;
            for (int[] taking : takings) {
                if (taking[0] == lane && taking[2] > most) {
                    most = taking[2];
                    task = taking[3];
                }
            }
            return what == 0 ? taken(lane, 2) : what == 1 ? most : task;
        }

        long share(int lane, int what) {
            if (!in(lane, 0, 4) || !in(what, 0, 4)) {
                return -1;
            }
            List<T> here = sorted(0, lane);
            switch (what) {
                case 0: return taken(-1, 1) == 0 ? 0 : taken(lane, 1) * 1000 / taken(-1, 1);
                case 1:
                    int weights = 0;
                    for (int[] l : lanes) {
                        weights += l[0];
                    }
                    return lanes[lane][0] * 1000 / weights;
                case 2:
                    int places = 0;
                    while (openness[lane] == 0 && stand(lane) + places < lanes[lane][1] && stand(-1) + places < rules[4]
                        && tasks.size() + places < 400) {
                        places++;
                    }
                    return places;
                case 3:
                    here.sort(Comparator.comparingInt((T t) -> t.came).thenComparingInt(t -> t.number));
                    return numberAt(here, 0);
                default:
                    int sizes = 0;
                    for (T t : here) {
                        sizes += t.size;
                    }
                    return sizes;
            }
        }

        long wouldBe(String name, int p, int q, T t) {
            switch (name) {
                case "ahead": return at(takenOn(), p);
                case "turnOf": return t == null ? -1 : takenOn().indexOf(p);
                case "bestLane": return best(p, q);
                case "chain":
                    if (t == null || !in(q, 0, 1)) {
                        return -1;
                    }
                    int sizes = t.size;
                    int links = 1;
                    for (T u = task(t.behind); u != null && u.is != 4; u = task(u.behind)) {
                        sizes += u.size;
                        links++;
                    }
                    return q == 0 ? sizes : links;
                case "lapse":
                    if (!in(p, 1, 99) || !in(q, 0, 2)) {
                        return -1;
                    }
                    Model m = copy();
                    int n = 0;
                    for (int i = 0; i < p; i++) {
                        n += m.tickOnce()[q];
                    }
                    return n;
                case "safe": return t == null || t.is != 0 ? -1 : safe(t);
                case "finish": return in(p, 1, 6) && in(q, 0, 2) ? finish(p)[q] : -1;
                case "empties": return in(p, 0, 4) && in(q, 1, 6) ? finish(q)[3 + p] : -1;
                case "enough":
                    for (int w = 1; w <= 6 && p >= 0; w++) {
                        if (finish(w)[0] <= p) {
                            return w;
                        }
                    }
                    return -1;
                case "hangs": return t == null ? -1 : hang(p);
                case "spread": {
                    int most = -1;
                    int least = -1;
                    for (int i = 0; i < 5; i++) {
                        if (live(i)) {
                            most = most < 0 || pass[i] > pass[most] ? i : most;
                            least = least < 0 || pass[i] < pass[least] ? i : least;
                        }
                    }
                    return most < 0 || !in(p, 0, 2) ? -1 : p == 0 ? pass[most] - pass[least] : p == 1 ? most : least;
                }
                case "blamed": return in(p, 0, 101) ? blamed(p) : -1;
                case "worst":
                    int worst = -1;
                    for (int c = 0; c <= 101; c++) {
                        if (blamed(c) > (worst < 0 ? 0 : blamed(worst))) {
                            worst = c;
                        }
                    }
                    return worst;
                case "log":
                    return in(p, 0, Math.min(64, log.size()) - 1) && in(q, 0, 5) ? log.get(log.size() - 1 - p)[q] : -2;
                default: throw new IllegalStateException(name);
            }
        }
    }
}
