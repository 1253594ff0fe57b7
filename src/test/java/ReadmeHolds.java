import java.io.File;
import java.io.IOException;
import java.lang.reflect.Method;
import java.lang.reflect.Modifier;
import java.nio.file.Files;
import java.nio.file.Path;
import java.util.ArrayList;
import java.util.Comparator;
import java.util.List;
import java.util.regex.Matcher;
import java.util.regex.Pattern;
import java.util.stream.Stream;

/** What README.md says holds: its example and its lines for the shell run as they stand, and calls answer as it tells. */
public final class ReadmeHolds {
    private static final int NONE = LaneStore.NONE;
    private static int wrong = 0;

    private static void must(boolean holds, String what) {
        if (!holds) {
            wrong++;
            System.out.println("not so: " + what);
        }
    }

    private static void due(String what, long want, long got) {
        must(want == got, what + " answered " + got + ", due is " + want);
    }

    public static void main(String[] args) throws Exception {
        String readme = Files.readString(Path.of("README.md"));
        Path top = Files.createTempDirectory("readme");
        try {
            Files.createSymbolicLink(top.resolve("src"), Path.of("src").toAbsolutePath());
            exampleRuns(readme, top);
            oneTestRuns(readme, top);
        } finally {
            removeAll(top);
        }
        everyCallIsNamed(readme);
        everyTestIsNamed(readme);
        reasonsAreTold(readme);
        refusalsAnswer();
        whatIsNoRefusal();
        whatIsNotThere();
        System.out.println(wrong == 0 ? "the README holds" : wrong + " things in the README do not hold");
        if (wrong != 0) {
            System.exit(1);
        }
    }

    // ---- the page itself

    private static List<String> blocks(String readme, String kind) {
        List<String> all = new ArrayList<>();
        Matcher m = Pattern.compile("(?s)\n```" + kind + "\n(.*?)```\n").matcher(readme);
        while (m.find()) {
            all.add(m.group(1));
        }
        return all;
    }

    private static String only(List<String> all, String word) {
        List<String> with = new ArrayList<>(all);
        with.removeIf(block -> !block.contains(word));
        must(with.size() == 1, "one block with " + word + ", not " + with.size());
        return with.isEmpty() ? "" : with.get(0);
    }

    private static void exampleRuns(String readme, Path top) throws Exception {
        Files.writeString(top.resolve("Example.java"), only(blocks(readme, "java"), "class Example"));
        String printed = run(only(blocks(readme, "sh"), "Example.java"), top);
        String told = only(blocks(readme, "text"), "came:");
        must(printed.equals(told), "the example prints\n" + told + "but it printed\n" + printed);
    }

    private static void oneTestRuns(String readme, Path top) throws Exception {
        String printed = run(only(blocks(readme, "sh"), "Promises"), top);
        must(printed.endsWith(" 0 wrong\n"), "one test runs by itself, but it printed\n" + printed);
        must(only(blocks(readme, "sh"), ".ci/run").equals(".ci/run\n"), "all tests are run by .ci/run");
        must(Files.isExecutable(Path.of(".ci/run")), ".ci/run can be run");
    }

    private static String run(String lines, Path in) throws IOException, InterruptedException {
        File out = in.resolve("printed").toFile();
        Process p = new ProcessBuilder("sh", "-e", "-c", lines).directory(in.toFile())
            .redirectErrorStream(true).redirectOutput(out).start();
        due("the exit code of\n" + lines, 0, p.waitFor());
        return Files.readString(out.toPath());
    }

    private static void removeAll(Path top) throws IOException {
        try (Stream<Path> all = Files.walk(top)) {
            for (Path p : all.sorted(Comparator.reverseOrder()).toList()) {
                Files.delete(p);
            }
        }
    }

    private static void everyCallIsNamed(String readme) {
        for (Method m : LaneStore.class.getDeclaredMethods()) {
            if (Modifier.isPublic(m.getModifiers())) {
                must(readme.contains("`" + m.getName() + "`"), "the README names " + m.getName());
            }
        }
    }

    private static void everyTestIsNamed(String readme) throws IOException {
        try (Stream<Path> tests = Files.list(Path.of("src/test/java"))) {
            for (Path test : tests.toList()) {
                String name = test.getFileName().toString().replace(".java", "");
                must(readme.contains("`" + name + "`"), "the README names " + name);
            }
        }
    }

    private static void reasonsAreTold(String readme) {
        List<String> answers = new ArrayList<>();
        Matcher m = Pattern.compile("\n\\| (-\\d) \\|").matcher(readme);
        while (m.find()) {
            answers.add(m.group(1));
        }
        // The greatest is told of several, so they stand in this order.
        must(answers.equals(List.of("-2", "-3", "-4", "-5", "-6", "-7")), "the table has each reason, but it has " + answers);
    }

    // ---- what a call that can't be answers

    private static void refusalsAnswer() {
        LaneStore x = new LaneStore();
        due("put to no lane", -2, x.put(5, 0, 1, 0, NONE));
        due("put of no size", -2, x.put(0, 0, 0, 0, NONE));
        due("take of no worker", -2, x.take(6));
        due("cancel of no task", -2, x.cancel(0));
        due("stop of no timer", -2, x.stop(0));
        x.put(0, 0, 1, 7, NONE);
        x.take(0);
        due("cancel of one that is out", -3, x.cancel(0));
        due("done by another token", -3, x.done(0, 2));
        x.drain(1);
        due("put to a lane that is not open", -3, x.put(1, 0, 1, 8, NONE));
        x.arrange(0, 1, 1);
        due("put without room", -4, x.put(0, 0, 1, 8, NONE));
        due("put without room, of a key that stands", -4, x.put(0, 0, 1, 7, NONE));
        due("put of a key that stands", -5, x.put(2, 0, 1, 7, NONE));
        for (int i = 0; i < 12; i++) {
            due("every", i, x.every(0, 0, 1, 9, 99));
        }
        due("every behind 12 timers", -6, x.every(0, 0, 1, 9, 99));
        x.rule(3, 1);
        x.rule(5, 1);
        due("fail at last", 5, x.fail(0, 1, 1));
        due("put of a banned key", -7, x.put(2, 0, 1, 7, NONE));
        due("how many were refused", 13, x.store(10));
        due("how many came", 1, x.store(8));
    }

    private static void whatIsNoRefusal() {
        LaneStore x = new LaneStore();
        due("take where none waits", NONE, x.take(0));
        x.tick(2);
        x.put(0, 1, 1, 0, NONE);
        due("raise to the rank -2", -2, x.raise(0, 0));
        x.tick(1);
        x.put(0, 1, 1, 1, NONE);
        due("raise to the rank -3", -3, x.raise(1, 0));
        x.every(0, 0, 1, 0, 1);
        x.tick(1);
        due("a timer's that can't come", 1, x.timer(0, 6));
        x.drain(0);
        must(x.steps(1, 60) < 60, "some of sixty steps can't be");
        due("none of these was refused", 0, x.store(10));
        due("raise to the same", -3, x.raise(1, 0));
        due("that was refused", 1, x.store(10));
    }

    private static void whatIsNotThere() {
        LaneStore x = new LaneStore();
        due("rank", -1000000, x.rank(0));
        due("log", -2, x.log(0, 0));
        long[] others = {x.store(19), x.lane(5, 0), x.task(0, 0), x.cause(0, 0), x.worker(6, 0), x.timer(0, 0),
            x.waiting(0, 0), x.keyed(0), x.resting(0), x.aside(0), x.ending(0), x.strikes(-1), x.banned(0), x.waits(5, 0),
            x.share(5, 0), x.path(0, 0), x.ahead(0), x.turnOf(0), x.bestLane(0, 0), x.chain(0, 0), x.lapse(0, 0), x.safe(0),
            x.finish(0, 0), x.empties(5, 1), x.enough(-1), x.hangs(0), x.spread(0), x.blamed(102), x.worst()};
        for (int i = 0; i < others.length; i++) {
            due("question " + i, NONE, others[i]);
        }
        due("questions are not counted", 0, x.store(10));
    }
}
