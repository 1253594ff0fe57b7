import java.io.IOException;
import java.lang.reflect.Method;
import java.lang.reflect.Modifier;
import java.nio.file.Files;
import java.nio.file.Path;
import java.util.ArrayList;
import java.util.Arrays;
import java.util.HashMap;
import java.util.List;
import java.util.Map;
import java.util.TreeSet;

/**
 * An object under test whose calls are kept, so that they can be played again on new objects:
 * all that can be asked of it is asked there, and no object serves more than its 512 calls.
 */
final class Probe {
    private record Call(String name, int[] args) {
        @Override
        public String toString() {
            String inside = Arrays.toString(args);
            return name + "(" + inside.substring(1, inside.length() - 1) + ")";
        }
    }

    private static final int NONE = LaneStore.NONE;
    private static final int MOST_CALLS = 512;
    private static final Map<String, Method> FACE = new HashMap<>();
    private static final TreeSet<Integer> NAMED = new TreeSet<>();
    private static String document;
    private static String sentence = "";
    private static int sentences = 0;
    private static int asked = 0;
    private static int askedBefore = 0;
    private static int wrong = 0;

    static {
        for (Method m : LaneStore.class.getDeclaredMethods()) {
            if (Modifier.isPublic(m.getModifiers())) {
                FACE.put(m.getName(), m);
            }
        }
    }

    private final List<Call> made = new ArrayList<>();
    private final LaneStore x = new LaneStore();

    // ---- what is said

    /** The words of the document that what follows tests; promise 0 stands for its terms. */
    static void sentence(int promise, String words) {
        mustHaveAsked();
        sentence = promise + " '" + words + "'";
        sentences++;
        NAMED.add(promise);
        if (!document().contains(words)) {
            tell("the document has no such words");
        } else if (promise > 0 && !section(promise).contains(words)) {
            tell("that promise has no such words");
        }
    }

    // A sentence that is named alone tests nothing.
    private static void mustHaveAsked() {
        if (!sentence.isEmpty() && asked == askedBefore) {
            tell("nothing was asked");
        }
        askedBefore = asked;
    }

    static void due(String what, long want, long got) {
        asked++;
        if (got != want) {
            tell(what + " answered " + got + ", due is " + want);
        }
    }

    private static void tell(String what) {
        wrong++;
        System.out.println(sentence + ": " + what);
    }

    /** Says how it went; each of these promises must have been named. */
    static void end(int first, int last) {
        mustHaveAsked();
        sentence = "all";
        for (int promise = first; promise <= last; promise++) {
            if (!NAMED.contains(promise)) {
                tell("no sentence of promise " + promise + " has a test");
            }
        }
        System.out.println(sentences + " sentences, " + asked + " answers, " + wrong + " wrong");
        if (wrong != 0) {
            System.exit(1);
        }
    }

    private static String document() {
        if (document == null) {
            try {
                document = Files.readString(Path.of("../shared/DOC.md"));
            } catch (IOException e) {
                throw new IllegalStateException("the document can't be read", e);
            }
        }
        return document;
    }

    private static String section(int promise) {
        int from = document().indexOf("## Promise " + promise + ":");
        int to = document().indexOf("\n## ", from + 1);
        return from < 0 || to < 0 ? "" : document().substring(from, to);
    }

    // ---- calls

    private static long invoke(LaneStore on, Call c) {
        try {
            Object[] boxed = new Object[c.args.length];
            for (int i = 0; i < boxed.length; i++) {
                boxed[i] = c.args[i];
            }
            return ((Number) FACE.get(c.name).invoke(on, boxed)).longValue();
        } catch (ReflectiveOperationException e) {
            throw new IllegalStateException(sentence + ": " + c + " threw", e);
        }
    }

    private long keep(Call c) {
        made.add(c);
        if (made.size() > MOST_CALLS) {
            throw new IllegalStateException(sentence + ": more than 512 calls");
        }
        return invoke(x, c);
    }

    long ask(String name, int... args) {
        return keep(new Call(name, args));
    }

    /** A call that is no test in itself, but must not be refused. */
    Probe does(String name, int... args) {
        Call c = new Call(name, args);
        long got = keep(c);
        if (got < NONE && !name.equals("raise")) {
            tell(c + " was refused: " + got);
        }
        return this;
    }

    void is(long want, String name, int... args) {
        Call c = new Call(name, args);
        due(c.toString(), want, keep(c));
    }

    void none(String name, int... args) {
        is(NONE, name, args);
    }

    /** Taken by a worker who has none: its TOKEN; it must be that task. */
    int taken(int worker, int task) {
        is(task, "take", worker);
        return (int) peek("store", 11);
    }

    void failed(int worker, int task, int cause) {
        does("fail", worker, taken(worker, task), cause);
    }

    void completed(int worker, int task) {
        is(task, "done", worker, taken(worker, task));
    }

    /** What an object would answer now, were it asked; it is not asked itself. */
    long peek(String name, int... args) {
        return invoke(played(made), new Call(name, args));
    }

    /** Another object behind the same calls. */
    Probe twin() {
        Probe other = new Probe();
        for (Call c : made) {
            other.keep(c);
        }
        return other;
    }

    /** The call is refused: its answer, that it is counted, and that nothing else changes. */
    void refuses(long want, String name, int... args) {
        changesBut(1, want, name, args);
    }

    /** The call answers so, is not counted as refused, and changes nothing. */
    void changesNothing(long want, String name, int... args) {
        changesBut(0, want, name, args);
    }

    private void changesBut(int refusals, long want, String name, int[] args) {
        Call c = new Call(name, args);
        List<Call> questions = questions();
        long[] before = answers(questions);
        due(c.toString(), want, keep(c));
        long[] after = answers(questions);
        for (int i = 0; i < before.length; i++) {
            Call q = questions.get(i);
            boolean counts = q.name.equals("store") && q.args[0] == 10;
            if (after[i] != before[i] + (counts ? refusals : 0)) {
                due(q + " behind " + c, before[i] + (counts ? refusals : 0), after[i]);
                return;
            }
        }
        asked += before.length;
    }

    /** Both would answer alike, whatever they were asked. */
    void isLike(Probe other) {
        List<Call> questions = questions();
        long[] mine = answers(questions);
        long[] others = other.answers(questions);
        for (int i = 0; i < mine.length; i++) {
            due(questions.get(i).toString(), others[i], mine[i]);
        }
    }

    private static LaneStore played(List<Call> calls) {
        LaneStore fresh = new LaneStore();
        for (Call c : calls) {
            invoke(fresh, c);
        }
        return fresh;
    }

    private long[] answers(List<Call> questions) {
        long[] all = new long[questions.size()];
        int each = MOST_CALLS - made.size();
        if (each < 20) {
            throw new IllegalStateException(sentence + ": too many calls to ask on");
        }
        for (int from = 0; from < all.length; from += each) {
            LaneStore fresh = played(made);
            for (int i = from; i < Math.min(all.length, from + each); i++) {
                all[i] = invoke(fresh, questions.get(i));
            }
        }
        return all;
    }

    // ---- all that can be asked

    private List<Call> questions() {
        List<Call> all = new ArrayList<>();
        int came = (int) peek("store", 8);
        for (int what = -1; what <= 19; what++) {
            add(all, "store", what);
        }
        addOfLanes(all);
        for (int task = 0; task <= came; task++) {
            addOfTask(all, task, came > 100);
        }
        addOfKeys(all, came);
        addOfRows(all, came);
        addWhatWouldBe(all);
        for (int k = 0; k <= 64; k++) {
            for (int what = 0; what < 6; what++) {
                add(all, "log", k, what);
            }
        }
        return all;
    }

    private static void add(List<Call> all, String name, int... args) {
        all.add(new Call(name, args));
    }

    private static void addOfLanes(List<Call> all) {
        for (int lane = 0; lane < 5; lane++) {
            for (int what = 0; what <= 10; what++) {
                add(all, "lane", lane, what);
            }
            for (int what = 0; what < 5; what++) {
                add(all, "share", lane, what);
                add(all, "waits", lane, what);
            }
            for (int k = 0; k <= 32; k++) {
                add(all, "waiting", lane, k);
            }
        }
    }

    private static void addOfTask(List<Call> all, int task, boolean ofMany) {
        for (int what = 0; what <= 12; what++) {
            add(all, "task", task, what);
        }
        add(all, "rank", task);
        add(all, "cause", task, NONE);
        add(all, "hangs", task);
        if (ofMany) {
            return;
        }
        for (int k = 0; k < 21; k++) {
            add(all, "cause", task, k);
        }
        for (int k = 0; k < 4; k++) {
            add(all, "path", task, k);
        }
        for (int what = 0; what < 2; what++) {
            add(all, "bestLane", task, what);
            add(all, "chain", task, what);
        }
        add(all, "turnOf", task);
        add(all, "safe", task);
    }

    private void addOfKeys(List<Call> all, int came) {
        TreeSet<Integer> keys = new TreeSet<>(List.of(0, 1, 9998, 9999));
        LaneStore fresh = played(made);
        // One call for each of up to 400 tasks may be too many for one object.
        for (int task = 0; task < came; task++) {
            if (made.size() + task % 100 >= MOST_CALLS || task % 100 == 0) {
                fresh = played(made);
            }
            keys.add(fresh.task(task, 3));
        }
        for (int key : keys) {
            add(all, "keyed", key);
            add(all, "strikes", key);
        }
    }

    private static void addOfRows(List<Call> all, int came) {
        for (int worker = 0; worker < 6; worker++) {
            for (int what = 0; what < 6; what++) {
                add(all, "worker", worker, what);
            }
        }
        for (int timer = 0; timer < 12; timer++) {
            for (int what = 0; what < 8; what++) {
                add(all, "timer", timer, what);
            }
        }
        for (int k = 0; k <= came; k++) {
            add(all, "aside", k);
            add(all, "banned", k);
        }
        for (int k = 0; k <= 48; k++) {
            add(all, "resting", k);
            add(all, "ahead", k);
        }
        for (int k = 0; k <= 6; k++) {
            add(all, "ending", k);
        }
    }

    private static void addWhatWouldBe(List<Call> all) {
        for (int n : new int[] {1, 2, 5, 10, 11, 50, 99}) {
            for (int what = 0; what < 3; what++) {
                add(all, "lapse", n, what);
            }
            add(all, "enough", n);
        }
        for (int w = 1; w <= 6; w++) {
            for (int what = 0; what < 3; what++) {
                add(all, "finish", w, what);
            }
            for (int lane = 0; lane < 5; lane++) {
                add(all, "empties", lane, w);
            }
        }
        for (int what = 0; what < 3; what++) {
            add(all, "spread", what);
        }
        for (int cause = 0; cause <= 101; cause++) {
            add(all, "blamed", cause);
        }
        add(all, "worst");
    }
}
