/** For each promise: ordinary inputs, the edges that the document names, and wrong inputs. */
public final class Promises {
    private static final int NONE = LaneStore.NONE;
    private static int asked = 0;
    private static int wrong = 0;

    private static void due(String what, long want, long got) {
        asked++;
        if (got != want) {
            wrong++;
            System.out.println(what + ": answered " + got + ", due is " + want);
        }
    }

    public static void main(String[] args) {
        p1NewObject();
        p2Put();
        p2PutBehind();
        p2FourHundred();
        p3Take();
        p3FairTurns();
        p3Limit();
        p3PassOfIdleLane();
        p4Done();
        p5Fail();
        p5Fall();
        p6Beat();
        p7Back();
        p8Hand();
        p9EveryAnd10Stop();
        p9SkippedAndTwelve();
        p11Tick();
        p12DrainAnd13Open();
        p14Cancel();
        p15Move();
        p16Raise();
        p17Again();
        p18Discard();
        p19Arrange();
        p20Rule();
        p21PardonAnd35StrikesAnd36Banned();
        p22Steps();
        p23Store();
        p24Lane();
        p25Task();
        p26Rank();
        p27Cause();
        p28Worker();
        p29Timer();
        p30Waiting();
        p31Keyed();
        p32Resting();
        p33Aside();
        p34Ending();
        p37Waits();
        p38Share();
        p39Path();
        p40AheadAnd41TurnOf();
        p42BestLane();
        p43Chain();
        p44Lapse();
        p45Safe();
        p46Finish();
        p47Empties();
        p48Enough();
        p49Hangs();
        p50Spread();
        p51BlamedAnd52Worst();
        p53Log();
        System.out.println(asked + " answers, " + wrong + " wrong");
        if (wrong != 0) {
            System.exit(1);
        }
    }

    /** A task that fails as often as it takes to go aside. */
    private static void failToTheEnd(LaneStore x, int worker, int task, int cause) {
        for (int i = 0; i < 200 && x.task(task, 6) != 5; i++) {
            if (x.task(task, 6) == 0) {
                due("taking " + task, task, x.take(worker));
                x.fail(worker, x.store(11), cause);
            } else {
                x.tick(1);
            }
        }
        due("aside " + task, 5, x.task(task, 6));
    }

    private static void p1NewObject() {
        LaneStore x = new LaneStore();
        for (int lane = 0; lane < 5; lane++) {
            int[] want = {1, 12, 0, 0, 0, 0, 0, 0, 6, 0};
            for (int what = 0; what < want.length; what++) {
                due("1 lane " + lane + " " + what, want[what], x.lane(lane, what));
            }
        }
        for (int what = 0; what <= 12; what++) {
            due("1 store " + what, 0, x.store(what));
        }
        due("1 NONE", -1, LaneStore.NONE);
        new LaneStore().put(0, 0, 1, 0, NONE);
        due("1 objects share nothing", 0, x.store(8));
    }

    private static void p2Put() {
        LaneStore x = new LaneStore();
        due("2 first", 0, x.put(4, 9, 20, 9999, NONE));
        due("2 next", 1, x.put(0, 0, 1, 0, NONE));
        due("2 lane", -2, x.put(-1, 0, 1, 5, NONE));
        due("2 lane 5", -2, x.put(5, 0, 1, 5, NONE));
        due("2 priority", -2, x.put(0, -1, 1, 5, NONE));
        due("2 priority 10", -2, x.put(0, 10, 1, 5, NONE));
        due("2 size 0", -2, x.put(0, 0, 0, 5, NONE));
        due("2 size 21", -2, x.put(0, 0, 21, 5, NONE));
        due("2 key -1", -2, x.put(0, 0, 1, -1, NONE));
        due("2 key 10000", -2, x.put(0, 0, 1, 10000, NONE));
        due("2 behind 2", -2, x.put(0, 0, 1, 5, 2));
        due("2 behind least", -2, x.put(0, 0, 1, 5, Integer.MIN_VALUE));
        due("2 key stands", -5, x.put(3, 0, 1, 9999, NONE));
        due("2 refused", 11, x.store(10));
        x.drain(4);
        due("2 draining", -3, x.put(4, 0, 1, 5, NONE));
        x.drain(3);
        due("2 closed", -3, x.put(3, 0, 1, 5, NONE));
        due("2 of several the greatest", -2, x.put(3, 0, 0, 9999, NONE));
        due("2 of -3 and -5", -3, x.put(3, 0, 1, 9999, NONE));
        x.arrange(0, 1, 1);
        due("2 lane is full", -4, x.put(0, 0, 1, 5, NONE));
        due("2 of -4 and -5", -4, x.put(0, 0, 1, 9999, NONE));
        x.rule(4, 2);
        due("2 all is full", -4, x.put(1, 0, 1, 5, NONE));
        x.rule(4, 3);
        due("2 one place", 2, x.put(1, 0, 1, 5, NONE));
        due("2 is what it was told", 5, x.task(2, 3));
    }

    private static void p2PutBehind() {
        LaneStore x = new LaneStore();
        x.put(0, 0, 1, 1, NONE);
        due("2 behind one that waits", 1, x.put(1, 0, 1, 2, 0));
        due("2 held", 1, x.task(1, 6));
        due("2 not live", 0, x.lane(1, 4));
        due("2 behind one that is held", 2, x.put(2, 0, 1, 3, 1));
        x.take(0);
        due("2 behind one that is out", 3, x.put(1, 0, 1, 4, 0));
        x.done(0, 1);
        due("2 behind one that is done", 4, x.put(1, 0, 1, 5, 0));
        due("2 it waits", 0, x.task(4, 6));
        due("2 and comes behind it yet", 0, x.task(4, 4));
        x.cancel(1);
        due("2 behind one that is gone", -2, x.put(1, 0, 1, 6, 1));
        due("2 behind one aside", -3, x.put(1, 0, 1, 6, 2));
    }

    private static void p2FourHundred() {
        LaneStore x = new LaneStore();
        x.rule(4, 48);
        for (int lane = 0; lane < 5; lane++) {
            x.arrange(lane, 1, 32);
        }
        // 512 calls do not carry 400 puts and as many cancels, but steps bring many at once.
        for (int seed = 1; seed < 70 && x.store(8) < 400; seed++) {
            x.steps(seed * 7919, 60);
            x.cancel(x.waiting(seed % 5, 0));
        }
        due("2 there were 400", 400, x.store(8));
        for (int lane = 0; lane < 5; lane++) {
            for (int task = x.waiting(lane, 0); task != NONE; task = x.waiting(lane, 0)) {
                x.cancel(task);
            }
        }
        due("2 there is room", 0, x.store(1));
        due("2 no more", -6, x.put(0, 0, 1, 9998, NONE));
        due("38 no more", 0, x.share(0, 2));
        x.every(0, 0, 1, 9998, 1);
        x.tick(1);
        due("11 a timer's is skipped", 1, x.timer(0, 6));
        due("2 still 400", 400, x.store(8));
        int sum = 0;
        for (int what = 1; what <= 7; what++) {
            sum += x.store(what);
        }
        due("23 counts add up", 400, sum);
    }

    private static void p3Take() {
        LaneStore x = new LaneStore();
        due("3 no lane", NONE, x.take(0));
        due("3 not refused", 0, x.store(10));
        x.put(2, 3, 4, 1, NONE);
        x.put(2, 3, 4, 2, NONE);
        x.put(2, 4, 4, 3, NONE);
        due("3 worker -1", -2, x.take(-1));
        due("3 worker 6", -2, x.take(6));
        due("3 greatest rank", 2, x.take(5));
        due("3 has one", -3, x.take(5));
        due("3 out", 3, x.task(2, 6));
        due("3 token", 1, x.task(2, 10));
        due("3 ends", 10, x.task(2, 11));
        due("3 pass", 2520 * 4, x.lane(2, 3));
        due("3 least number", 0, x.take(0));
        due("3 token 2", 2, x.task(0, 10));
        due("3 the other", 1, x.take(1));
        due("3 none any more", NONE, x.take(2));
    }

    private static void p3FairTurns() {
        LaneStore x = new LaneStore();
        x.arrange(1, 0, 2);
        for (int i = 0; i < 4; i++) {
            x.put(0, 0, 3, i, NONE);
            x.put(1, 0, 3, 10 + i, NONE);
        }
        // Lane 0 pays 7560 a task, lane 1 the half of it.
        int[] want = {0, 1, 3, 2, 5, 7, 4, 6};
        for (int i = 0; i < want.length; i++) {
            due("3 turn " + i, want[i], x.take(0));
            x.done(0, x.store(11));
        }
        due("3 pass 0", 4 * 7560, x.lane(0, 3));
        due("3 pass 1", 4 * 3780, x.lane(1, 3));
        LaneStore y = new LaneStore();
        y.arrange(0, 0, 9);
        y.put(0, 0, 7, 1, NONE);
        y.take(0);
        due("3 weight 9", 2520 * 7 / 9, y.lane(0, 3));
    }

    private static void p3Limit() {
        LaneStore x = new LaneStore();
        x.arrange(0, 2, 1);
        x.put(0, 9, 1, 1, NONE);
        x.put(0, 9, 1, 2, NONE);
        x.put(1, 0, 20, 3, NONE);
        x.put(1, 0, 20, 4, NONE);
        due("3 lane 0", 0, x.take(0));
        due("3 lane 1", 2, x.take(1));
        due("3 lane 0 has its limit out", 3, x.take(2));
        due("3 nothing but lane 0", NONE, x.take(3));
        x.done(0, 1);
        due("3 below its limit", 1, x.take(0));
    }

    private static void p3PassOfIdleLane() {
        LaneStore x = new LaneStore();
        x.put(0, 0, 2, 1, NONE);
        x.put(0, 0, 2, 2, NONE);
        x.take(0);
        due("3 pass of a live one", 5040, x.lane(0, 3));
        x.put(1, 0, 1, 3, NONE);
        due("3 pass of the idle one", 5040, x.lane(1, 3));
        x.put(2, 0, 1, 4, NONE);
        x.take(1);
        due("3 of like ones the least number", 1, x.task(1, 9));
        due("3 lane 0 again", 10080, x.lane(0, 3));
        x.put(0, 0, 1, 5, NONE);
        due("3 its own is greater", 10080, x.lane(0, 3));
        LaneStore y = new LaneStore();
        y.put(0, 0, 2, 1, NONE);
        y.take(0);
        y.put(1, 0, 1, 2, NONE);
        due("3 none is live: its own", 0, y.lane(1, 3));
        y.put(0, 0, 2, 3, 1);
        due("3 one that is held lifts nothing", 5040, y.lane(0, 3));
        // The same for one that was OUT, that was HELD, that RESTED.
        LaneStore z = new LaneStore();
        z.put(0, 0, 1, 1, NONE);
        z.put(1, 0, 1, 2, NONE);
        z.put(2, 0, 9, 3, NONE);
        z.put(2, 0, 9, 4, NONE);
        z.put(3, 0, 1, 5, 0);
        z.take(0);
        z.take(1);
        z.take(2);
        z.back(1, 2);
        due("3 lifted by back", 22680, z.lane(1, 3));
        z.take(1);
        z.done(0, 1);
        due("3 lifted by what was held", 22680, z.lane(3, 3));
        LaneStore w = new LaneStore();
        w.put(0, 0, 1, 1, NONE);
        w.put(1, 0, 9, 2, NONE);
        w.put(1, 0, 9, 3, NONE);
        w.take(0);
        w.take(1);
        w.fail(0, 1, 1);
        w.tick(2);
        due("3 lifted by what rested", 22680, w.lane(0, 3));
    }

    private static void p4Done() {
        LaneStore x = new LaneStore();
        x.put(0, 0, 1, 1, NONE);
        x.put(1, 0, 1, 2, 0);
        x.put(0, 9, 1, 3, 0);
        x.put(0, 9, 1, 4, 2);
        x.take(3);
        due("4 worker", -2, x.done(6, 1));
        due("4 worker -1", -2, x.done(-1, 1));
        due("4 token", -3, x.done(3, 2));
        due("4 another's token", -3, x.done(2, 1));
        x.tick(2);
        due("4 done", 0, x.done(3, 1));
        due("4 is done", 4, x.task(0, 6));
        due("4 when", 2, x.task(0, 12));
        due("4 1 waits", 0, x.task(1, 6));
        due("4 2 waits", 0, x.task(2, 6));
        due("4 3 is held", 1, x.task(3, 6));
        due("4 once", -3, x.done(3, 1));
        due("4 line of 2", 2, x.log(0, 2));
        due("4 line of 1", 1, x.log(1, 2));
        due("4 its own line", 2, x.log(2, 1));
        due("4 free", NONE, x.worker(3, 0));
        due("4 key is free", 4, x.put(0, 0, 1, 1, NONE));
    }

    private static void p5Fail() {
        LaneStore x = new LaneStore();
        x.put(0, 0, 1, 7, NONE);
        x.tick(1);
        x.take(0);
        due("5 cause 0", -2, x.fail(0, 1, 0));
        due("5 cause 100", -2, x.fail(0, 1, 100));
        due("5 worker", -2, x.fail(6, 1, 1));
        due("5 token", -3, x.fail(0, 2, 1));
        due("5 none", -3, x.fail(1, 1, 1));
        due("5 rests", 2, x.fail(0, 1, 99));
        due("5 tried", 1, x.task(0, 7));
        due("5 due", 3, x.task(0, 8));
        x.tick(1);
        due("5 rests yet", 2, x.task(0, 6));
        x.tick(1);
        due("5 waits", 0, x.task(0, 6));
        x.take(0);
        due("5 rests longer", 2, x.fail(0, 2, 1));
        due("5 due later", 3 + 4, x.task(0, 8));
        x.tick(4);
        x.take(0);
        due("5 strikes before", 0, x.strikes(7));
        due("5 aside", 5, x.fail(0, 3, 2));
        due("5 strikes", 1, x.strikes(7));
        due("5 no due", NONE, x.task(0, 8));
        due("5 tried 3", 3, x.task(0, 7));
        LaneStore y = new LaneStore();
        y.rule(3, 9);
        y.rule(2, 20);
        y.put(0, 0, 1, 1, NONE);
        for (int i = 1; i <= 8; i++) {
            y.take(0);
            due("5 of nine " + i, 2, y.fail(0, i, 1));
            due("5 due of nine " + i, y.store(0) + 20 * (1 << (i - 1)), y.task(0, 8));
            for (int n = 0; n < 30 && y.task(0, 6) == 2; n++) {
                y.tick(99);
            }
        }
        y.take(0);
        due("5 the ninth", 5, y.fail(0, 9, 1));
    }

    private static void p5Fall() {
        LaneStore x = new LaneStore();
        x.rule(3, 1);
        x.put(0, 0, 1, 0, NONE);
        x.put(1, 0, 1, 1, 0);
        x.put(1, 0, 1, 2, 0);
        x.put(1, 0, 1, 3, 2);
        x.put(2, 0, 1, 4, 1);
        x.put(2, 0, 1, 5, 3);
        x.put(2, 0, 1, 6, NONE);
        x.drain(1);
        x.take(0);
        due("5 all fall", 5, x.fail(0, 1, 42));
        // By levels, each by numbers.
        int[] want = {0, 1, 2, 3, 4, 5};
        for (int i = 0; i < want.length; i++) {
            due("5 aside " + i, want[i], x.aside(i));
            due("5 its cause " + i, i == 0 ? 42 : 100, x.cause(i, 0));
            due("5 causes " + i, 1, x.cause(i, NONE));
            due("5 line " + i, i, x.log(5 - i, 2));
            due("5 line's cause " + i, i == 0 ? 42 : 100, x.log(5 - i, 5));
            due("5 tried " + i, i == 0 ? 1 : 0, x.task(i, 7));
            due("5 strikes " + i, i == 0 ? 1 : 0, x.strikes(i));
        }
        due("5 nothing more", NONE, x.aside(6));
        due("5 failed, then aside", 3, x.log(6, 1));
        due("5 lane 1 is closed", 2, x.lane(1, 2));
        LaneStore y = new LaneStore();
        y.rule(3, 1);
        y.put(0, 0, 1, 0, NONE);
        y.put(0, 0, 1, 1, 0);
        y.put(0, 0, 1, 2, 0);
        y.put(0, 0, 1, 3, 2);
        y.put(0, 0, 1, 4, 1);
        y.cancel(0);
        // Of the second level 3 is behind 2, and 4 behind 1.
        due("5 level 2", 3, y.aside(2));
        due("5 level 2 then", 4, y.aside(3));
    }

    private static void p6Beat() {
        LaneStore x = new LaneStore();
        x.put(0, 0, 1, 1, NONE);
        x.take(2);
        x.tick(9);
        due("6 worker", -2, x.beat(6, 1));
        due("6 token", -3, x.beat(2, 0));
        due("6 none", -3, x.beat(1, 1));
        due("6 ends", 19, x.beat(2, 1));
        x.rule(1, 3);
        due("6 stays", 19, x.task(0, 11));
        x.tick(9);
        due("6 out yet", 3, x.task(0, 6));
        due("6 by the rule", 21, x.beat(2, 1));
        x.tick(3);
        due("6 failed", 2, x.task(0, 6));
    }

    private static void p7Back() {
        LaneStore x = new LaneStore();
        x.put(0, 0, 1, 1, NONE);
        x.take(0);
        x.fail(0, 1, 1);
        x.tick(2);
        x.take(0);
        due("7 worker", -2, x.back(-1, 2));
        due("7 token", -3, x.back(0, 1));
        due("7 back", 0, x.back(0, 2));
        due("7 waits", 0, x.task(0, 6));
        due("7 tried", 1, x.task(0, 7));
        due("7 no token", NONE, x.task(0, 10));
        due("7 line", 5, x.log(0, 1));
        due("7 line's worker", NONE, x.log(0, 4));
        due("7 once", -3, x.back(0, 2));
        due("7 pass stays", 5040, x.lane(0, 3));
        due("7 again", 0, x.take(1));
        due("7 new token", 3, x.task(0, 10));
        due("7 neither done nor failed", 1, x.worker(0, 5));
    }

    private static void p8Hand() {
        LaneStore x = new LaneStore();
        x.put(0, 0, 1, 1, NONE);
        x.put(0, 0, 1, 2, NONE);
        x.take(0);
        x.take(1);
        x.tick(4);
        due("8 other", -2, x.hand(0, 1, 6));
        due("8 worker", -2, x.hand(-1, 1, 2));
        due("8 token", -3, x.hand(0, 2, 2));
        due("8 other has one", -3, x.hand(0, 1, 1));
        due("8 to itself", -3, x.hand(0, 1, 0));
        int lines = x.log(0, 2);
        due("8 handed", 0, x.hand(0, 1, 2));
        due("8 no line", lines, x.log(0, 2));
        due("8 its worker", 2, x.task(0, 9));
        due("8 token stays", 1, x.worker(2, 1));
        due("8 ends anew", 14, x.worker(2, 2));
        due("8 free", NONE, x.worker(0, 0));
        due("8 none taken by it", 0, x.worker(2, 3));
        due("8 done by the other", 0, x.done(2, 1));
        due("8 counted for it", 1, x.worker(2, 4));
        due("8 not for the first", 0, x.worker(0, 4));
    }

    private static void p9EveryAnd10Stop() {
        LaneStore x = new LaneStore();
        due("9 lane", -2, x.every(5, 0, 1, 0, 1));
        due("9 priority", -2, x.every(0, 10, 1, 0, 1));
        due("9 size", -2, x.every(0, 0, 21, 0, 1));
        due("9 key", -2, x.every(0, 0, 1, -1, 1));
        due("9 period 0", -2, x.every(0, 0, 1, 0, 0));
        due("9 period 100", -2, x.every(0, 0, 1, 0, 100));
        x.tick(1);
        due("9 begins", 0, x.every(3, 7, 5, 77, 2));
        due("9 at 3", 3, x.timer(0, 7));
        x.tick(1);
        due("9 not yet", 0, x.store(8));
        x.tick(1);
        due("9 came", 1, x.store(8));
        int[] want = {3, 7, 5, 77, NONE, 3, 0};
        for (int i = 0; i < want.length; i++) {
            due("9 task " + i, want[i], x.task(0, i));
        }
        x.take(0);
        x.done(0, 1);
        x.tick(2);
        due("9 came again", 2, x.timer(0, 5));
        due("10 none such", -2, x.stop(1));
        due("10 none such -1", -2, x.stop(-1));
        due("10 stopped", 2, x.stop(0));
        due("10 no more times", NONE, x.timer(0, 7));
        due("10 is stopped", -3, x.stop(0));
        x.take(0);
        x.done(0, 2);
        x.tick(20);
        due("10 none comes", 2, x.store(8));
    }

    private static void p9SkippedAndTwelve() {
        LaneStore x = new LaneStore();
        x.every(0, 0, 1, 5, 1);
        x.every(0, 1, 1, 5, 1);
        x.drain(1);
        due("9 of a closed lane", 2, x.every(1, 0, 1, 6, 2));
        int before = x.store(10);
        x.tick(2);
        due("9 first of like", 1, x.timer(0, 5));
        due("9 key stands", 1, x.timer(0, 6));
        due("9 skipped both", 2, x.timer(1, 6));
        due("9 closed", 1, x.timer(2, 6));
        due("9 goes on", 4, x.timer(2, 7));
        due("9 skipped is not refused", before, x.store(10));
        for (int i = 3; i < 12; i++) {
            due("9 number", i, x.every(0, 0, 1, i, 99));
        }
        due("9 there were 12", -6, x.every(0, 0, 1, 50, 99));
        due("9 of several", -2, x.every(0, 0, 1, 50, 100));
        x.stop(4);
        due("9 still 12", -6, x.every(0, 0, 1, 50, 99));
    }

    private static void p11Tick() {
        LaneStore x = new LaneStore();
        due("11 zero", -2, x.tick(0));
        due("11 hundred", -2, x.tick(100));
        due("11 below", -2, x.tick(Integer.MIN_VALUE));
        due("11 one", 1, x.tick(1));
        due("11 most", 100, x.tick(99));
        x.put(0, 0, 1, 1, NONE);
        x.put(0, 0, 1, 2, NONE);
        x.put(1, 0, 1, 3, NONE);
        x.take(4);
        x.take(1);
        x.tick(9);
        due("11 out", 3, x.task(0, 6));
        x.tick(1);
        due("11 ended", 2, x.task(0, 6));
        due("11 cause 0", 0, x.cause(0, 0));
        due("11 failed", 1, x.worker(4, 5));
        due("11 worker is free", NONE, x.worker(4, 0));
        due("11 by numbers", 0, x.log(1, 2));
        due("11 then", 2, x.log(0, 2));
        due("11 line's worker", 4, x.log(1, 4));
        due("11 due", 112, x.task(0, 8));
        x.tick(2);
        due("11 both wait", 0, x.task(0, 6) + x.task(2, 6));
        due("11 waits line", 5, x.log(0, 1));
        // One that waits again is ahead of a timer's of the same tick.
        LaneStore y = new LaneStore();
        y.put(0, 0, 1, 1, NONE);
        y.take(0);
        y.fail(0, 1, 3);
        y.every(0, 0, 1, 1, 2);
        y.tick(2);
        due("11 its key stands", 1, y.timer(0, 6));
        // The least DUE wakes first, though its number is greater.
        LaneStore z = new LaneStore();
        z.put(0, 9, 1, 1, NONE);
        z.put(1, 0, 1, 2, NONE);
        z.take(0);
        z.take(1);
        z.rule(2, 5);
        z.fail(0, 1, 1);
        z.rule(2, 4);
        z.fail(1, 2, 1);
        z.tick(5);
        due("11 0 is later", 0, z.log(0, 2));
        due("11 1 is earlier", 4, z.log(1, 0));
    }

    private static void p12DrainAnd13Open() {
        LaneStore x = new LaneStore();
        due("12 lane", -2, x.drain(5));
        due("12 lane -1", -2, x.drain(-1));
        due("13 lane", -2, x.open(5));
        due("13 is open", -3, x.open(0));
        x.put(0, 0, 1, 1, NONE);
        x.put(0, 0, 1, 2, 0);
        due("12 two stand", 2, x.drain(0));
        due("12 draining", 1, x.lane(0, 2));
        due("12 is not open", -3, x.drain(0));
        due("12 none stands", 0, x.drain(1));
        due("12 closed at once", 2, x.lane(1, 2));
        due("12 is closed", -3, x.drain(1));
        due("12 taken of it", 0, x.take(0));
        x.done(0, 1);
        due("12 one stands", 1, x.lane(0, 2));
        x.take(0);
        x.done(0, 2);
        due("12 closed by the last", 2, x.lane(0, 2));
        due("13 opens", 0, x.open(0));
        due("13 is open again", 0, x.lane(0, 2));
        due("13 takes work", 2, x.put(0, 0, 1, 1, NONE));
        x.drain(0);
        due("13 a draining one opens", 0, x.open(0));
        x.drain(0);
        x.move(2, 2);
        due("12 closed by a move", 2, x.lane(0, 2));
        x.drain(2);
        x.cancel(2);
        due("12 closed by a cancel", 2, x.lane(2, 2));
    }

    private static void p14Cancel() {
        LaneStore x = new LaneStore();
        due("14 none such", -2, x.cancel(0));
        x.put(0, 0, 1, 1, NONE);
        x.put(0, 0, 1, 2, 0);
        x.put(0, 0, 1, 3, 1);
        x.put(0, 9, 1, 4, NONE);
        due("14 of one held", 1, x.cancel(1));
        due("14 gone", 6, x.task(1, 6));
        due("14 by 101", 101, x.cause(2, 0));
        due("14 no cause of its own", 0, x.cause(1, NONE));
        due("14 gone already", -3, x.cancel(1));
        due("14 aside", -3, x.cancel(2));
        x.take(0);
        due("14 out", -3, x.cancel(3));
        x.fail(0, 1, 1);
        due("14 rests", 0, x.cancel(3));
        due("14 waits", 0, x.cancel(0));
        due("14 none stands", 0, x.store(9));
        due("14 three gone", 3, x.store(7));
        x.put(0, 0, 1, 1, NONE);
        x.take(0);
        x.done(0, 2);
        due("14 done", -3, x.cancel(4));
        due("14 no strikes", 0, x.strikes(1) + x.strikes(3));
        // Two levels: 101 for those behind it, 100 for those behind these.
        LaneStore y = new LaneStore();
        y.put(0, 0, 1, 1, NONE);
        y.put(0, 0, 1, 2, 0);
        y.put(0, 0, 1, 3, 1);
        due("14 two fall", 2, y.cancel(0));
        due("14 101", 101, y.cause(1, 0));
        due("14 100", 100, y.cause(2, 0));
        due("14 gone line", 6, y.log(2, 1));
    }

    private static void p15Move() {
        LaneStore x = new LaneStore();
        due("15 none such", -2, x.move(0, 1));
        x.put(0, 3, 2, 1, NONE);
        x.put(0, 3, 2, 2, 0);
        x.put(1, 3, 2, 3, NONE);
        due("15 lane", -2, x.move(0, 5));
        due("15 lane -1", -2, x.move(0, -1));
        due("15 its own", -3, x.move(0, 0));
        x.drain(2);
        due("15 not open", -3, x.move(0, 2));
        x.arrange(3, 1, 1);
        due("15 of one held", 0, x.move(1, 3));
        due("15 held yet", 1, x.task(1, 6));
        due("15 there", 1, x.lane(3, 5));
        due("15 not live", 0, x.lane(3, 4));
        due("15 no room", -4, x.move(0, 3));
        x.rule(4, 3);
        due("15 room of all does not matter", 0, x.move(0, 1));
        due("15 waits there", 2, x.lane(1, 4));
        due("15 left", 0, x.lane(0, 4));
        due("15 line", 7, x.log(0, 1));
        due("15 line's lane", 1, x.log(0, 3));
        due("15 of like ranks by numbers", 0, x.waiting(1, 0));
        x.take(0);
        due("15 out", -3, x.move(0, 0));
        x.fail(0, 1, 1);
        due("15 of one resting", 0, x.move(0, 4));
        due("15 rests yet", 2, x.task(0, 6));
        due("15 due yet", 2, x.task(0, 8));
        x.tick(2);
        due("15 waits in its new lane", 0, x.waiting(4, 0));
        // It leaves its lane ahead of coming to the other: the pass is of those live then.
        LaneStore y = new LaneStore();
        y.put(0, 0, 1, 1, NONE);
        y.put(1, 0, 9, 2, NONE);
        y.put(1, 0, 9, 3, NONE);
        y.take(0);
        y.put(0, 0, 1, 4, NONE);
        y.take(1);
        due("15 the least pass is lane 0's", 2520, y.lane(0, 3));
        due("15 lane 1's", 22680, y.lane(1, 3));
        y.move(3, 2);
        due("15 lifted to lane 1's", 22680, y.lane(2, 3));
    }

    private static void p16Raise() {
        LaneStore x = new LaneStore();
        due("16 none such", -2, x.raise(0, 1));
        x.tick(90);
        x.put(0, 3, 2, 1, NONE);
        x.put(0, 3, 2, 2, 0);
        due("16 priority", -2, x.raise(0, 10));
        due("16 priority -1", -2, x.raise(0, -1));
        due("16 the same", -3, x.raise(0, 3));
        int refused = x.store(10);
        due("16 rank", 9 * 8 - 90, x.raise(0, 9));
        due("16 rank below", -90, x.raise(0, 0));
        x.rule(0, 11);
        due("16 a rank that looks like a refusal", -2, x.raise(0, 8));
        due("16 not refused", refused, x.store(10));
        due("16 of one held", 5 * 11 - 90, x.raise(1, 5));
        x.take(0);
        due("16 out", -3, x.raise(0, 4));
        x.fail(0, 1, 1);
        due("16 rests", 7 * 11 - 90, x.raise(0, 7));
        due("16 refused one more", refused + 1, x.store(10));
        x.cancel(0);
        due("16 gone", -3, x.raise(0, 4));
        due("16 aside", -3, x.raise(1, 4));
    }

    private static void p17Again() {
        LaneStore x = new LaneStore();
        due("17 none such", -2, x.again(0));
        x.rule(3, 1);
        x.put(0, 5, 1, 1, NONE);
        x.put(0, 0, 1, 2, 0);
        due("17 not aside", -3, x.again(0));
        x.tick(3);
        failToTheEnd(x, 0, 0, 9);
        due("17 behind is aside", -3, x.again(1));
        x.rule(5, 1);
        due("17 banned", -7, x.again(0));
        x.rule(5, 2);
        due("17 waits", 0, x.again(0));
        due("17 tried", 0, x.task(0, 7));
        due("17 came", 0, x.task(0, 5));
        due("17 causes stay", 1, x.cause(0, NONE));
        due("17 line", 8, x.log(0, 1));
        due("17 held", 1, x.again(1));
        due("17 is held", 1, x.task(1, 6));
        due("17 none aside", NONE, x.aside(0));
        failToTheEnd(x, 0, 0, 9);
        due("17 of -7 and others", -7, x.again(0));
        x.pardon(1);
        x.put(2, 0, 1, 1, NONE);
        due("17 key stands", -5, x.again(0));
        x.arrange(0, 1, 1);
        x.put(0, 0, 1, 4, NONE);
        due("17 lane is full", -4, x.again(0));
        x.arrange(0, 1, 9);
        x.rule(4, 2);
        due("17 all is full", -4, x.again(0));
        x.drain(0);
        due("17 not open", -3, x.again(0));
        x.rule(4, 9);
        x.cancel(2);
        due("17 draining", -3, x.again(0));
        x.open(0);
        x.discard(0);
        due("17 behind is gone", -3, x.again(1));
        due("17 is gone", -3, x.again(0));
        LaneStore y = new LaneStore();
        y.rule(3, 1);
        y.put(0, 0, 1, 1, NONE);
        y.take(0);
        y.done(0, 1);
        y.put(0, 0, 1, 2, 0);
        failToTheEnd(y, 0, 1, 9);
        due("17 behind is done", 0, y.again(1));
    }

    private static void p18Discard() {
        LaneStore x = new LaneStore();
        due("18 none such", -2, x.discard(0));
        x.put(0, 0, 1, 1, NONE);
        x.put(0, 0, 1, 2, 0);
        x.put(0, 0, 1, 3, 0);
        due("18 not aside", -3, x.discard(0));
        x.cancel(0);
        due("18 one is aside yet", 1, x.discard(1));
        due("18 gone", 6, x.task(1, 6));
        due("18 line", 6, x.log(0, 1));
        due("18 once", -3, x.discard(1));
        due("18 none is", 0, x.discard(2));
        due("18 none", NONE, x.aside(0));
        due("18 three gone", 3, x.store(7));
    }

    private static void p19Arrange() {
        LaneStore x = new LaneStore();
        int[] was = {1, 12, 6};
        int[] top = {9, 32, 6};
        int[] told = {0, 1, 8};
        for (int what = 0; what < 3; what++) {
            due("19 zero " + what, -2, x.arrange(1, what, 0));
            due("19 above " + what, -2, x.arrange(1, what, top[what] + 1));
            due("19 was " + what, was[what], x.arrange(1, what, top[what]));
            due("19 is " + what, top[what], x.lane(1, told[what]));
            due("19 least " + what, top[what], x.arrange(1, what, 1));
            due("19 others " + what, was[what], x.lane(0, told[what]));
        }
        due("19 what 3", -2, x.arrange(1, 3, 1));
        due("19 what -1", -2, x.arrange(1, -1, 1));
        due("19 lane 5", -2, x.arrange(5, 0, 1));
        due("19 lane -1", -2, x.arrange(-1, 0, 1));
        due("19 refused", 10, x.store(10));
        x.put(0, 0, 1, 1, NONE);
        x.put(0, 0, 1, 2, NONE);
        x.arrange(0, 1, 1);
        due("19 less room throws nothing out", 2, x.lane(0, 5));
        due("19 no room", -4, x.put(0, 0, 1, 3, NONE));
    }

    private static void p20Rule() {
        LaneStore x = new LaneStore();
        int[] was = {8, 10, 2, 3, 32, 2};
        int[] top = {99, 99, 20, 9, 48, 9};
        for (int what = 0; what < 6; what++) {
            due("20 zero " + what, -2, x.rule(what, 0));
            due("20 above " + what, -2, x.rule(what, top[what] + 1));
            due("20 was " + what, was[what], x.rule(what, top[what]));
            due("20 is " + what, top[what], x.store(13 + what));
            due("20 least " + what, top[what], x.rule(what, 1));
        }
        due("20 what 6", -2, x.rule(6, 1));
        due("20 what -1", -2, x.rule(-1, 1));
        LaneStore y = new LaneStore();
        y.put(0, 9, 1, 1, NONE);
        y.put(0, 8, 1, 2, NONE);
        y.put(0, 2, 1, 3, NONE);
        y.take(0);
        y.fail(0, 1, 1);
        y.take(0);
        y.rule(1, 99);
        due("20 what is out stays", 10, y.task(1, 11));
        y.rule(2, 9);
        due("20 what rests stays", 2, y.task(0, 8));
        y.rule(3, 1);
        due("20 tried stays", 2, y.task(0, 6));
        y.rule(0, 5);
        due("20 ranks are by age as it is", 10, y.rank(2));
        y.fail(1, 2, 1);
        due("20 tries", 5, y.fail(0, 2, 1));
        y.rule(5, 1);
        due("20 ban", 2, y.banned(0));
        y.rule(5, 9);
        due("20 ban no more", NONE, y.banned(0));
    }

    private static void p21PardonAnd35StrikesAnd36Banned() {
        LaneStore x = new LaneStore();
        x.rule(3, 1);
        due("21 key", -2, x.pardon(10000));
        due("21 key -1", -2, x.pardon(-1));
        due("21 none", -3, x.pardon(3));
        due("35 key", NONE, x.strikes(10000));
        due("35 key -1", NONE, x.strikes(-1));
        int[] keys = {9999, 3, 500, 0, 500};
        int task = 0;
        for (int key : keys) {
            for (int i = 0; i < 2 && !(key == 500 && i == 1); i++) {
                x.put(0, 0, 1, key, NONE);
                failToTheEnd(x, 0, task, 1);
                task++;
            }
        }
        due("35 two", 2, x.strikes(500));
        due("35 two too", 2, x.strikes(9999));
        due("35 none", 0, x.strikes(4));
        int[] rising = {0, 3, 500, 9999, NONE};
        for (int k = 0; k < rising.length; k++) {
            due("36 " + k, rising[k], x.banned(k));
        }
        due("36 -1", NONE, x.banned(-1));
        due("2 banned", -7, x.put(0, 0, 1, 3, NONE));
        due("21 had", 2, x.pardon(3));
        due("21 none more", -3, x.pardon(3));
        due("35 pardoned", 0, x.strikes(3));
        due("36 pardoned", 500, x.banned(1));
        due("2 no more banned", task, x.put(0, 0, 1, 3, NONE));
        failToTheEnd(x, 0, task, 1);
        due("35 anew", 1, x.strikes(3));
        x.rule(5, 3);
        due("36 by the rule", NONE, x.banned(0));
        x.rule(5, 1);
        due("36 one is enough", 3, x.banned(1));
    }

    private static void p22Steps() {
        LaneStore x = new LaneStore();
        due("22 seed", -2, x.steps(-1, 1));
        due("22 n 0", -2, x.steps(0, 0));
        due("22 n 61", -2, x.steps(0, 61));
        due("22 refused", 3, x.store(10));
        // Of seed 0 the first draw is 12345 / 64 mod 10: 2, a task comes.
        due("22 n 1", 1, x.steps(0, 1));
        due("22 it came", 1, x.store(8));
        // The draws are made here anew, and told to another object by its calls.
        for (int seed : new int[] {0, 1, 77, 123456789, Integer.MAX_VALUE}) {
            x = new LaneStore();
            LaneStore y = new LaneStore();
            for (int round = 0; round < 6; round++) {
                due("22 seed " + seed, stepsByCalls(y, seed / (round + 1), 60), x.steps(seed / (round + 1), 60));
            }
            due("22 nothing is refused", 0, x.store(10));
            for (int what = 0; what <= 12; what++) {
                due("22 store " + what, what == 10 ? 0 : y.store(what), x.store(what));
            }
            for (int k = 0; k < 64; k++) {
                for (int what = 0; what < 6; what++) {
                    due("22 log", y.log(k, what), x.log(k, what));
                }
            }
            for (int t = 0; t < 40; t++) {
                for (int what = 0; what <= 12; what++) {
                    due("22 task", y.task(t, what), x.task(t, what));
                }
            }
        }
    }

    private static long drawn;

    private static int draw(int m) {
        drawn = (1103515245L * drawn + 12345L) % 2147483648L;
        return (int) (drawn / 64 % m);
    }

    private static int stepsByCalls(LaneStore y, int seed, int n) {
        drawn = seed;
        int were = 0;
        for (int i = 0; i < n; i++) {
            int d = draw(10);
            int lane;
            int priority;
            int size;
            int worker;
            if (d < 3) {
                lane = draw(5);
                priority = draw(10);
                size = draw(20) + 1;
                were += y.put(lane, priority, size, draw(10000), NONE) >= 0 ? 1 : 0;
            } else if (d < 5) {
                were += y.take(draw(6)) >= 0 ? 1 : 0;
            } else if (d < 7) {
                worker = draw(6);
                were += y.done(worker, y.worker(worker, 1)) >= 0 ? 1 : 0;
            } else if (d == 7) {
                worker = draw(6);
                were += y.fail(worker, y.worker(worker, 1), draw(99) + 1) >= 0 ? 1 : 0;
            } else if (d == 8) {
                were += y.tick(1) > 0 ? 1 : 0;
            } else {
                int refused = y.store(10);
                int task = draw(400);
                y.raise(task, draw(10));
                were += y.store(10) == refused ? 1 : 0;
            }
        }
        return were;
    }

    /** One task of each state: 0 done, 1 out, 2 rests, 3 waits, 4 held, 5 gone, 6 aside. */
    private static LaneStore oneOfEach() {
        LaneStore x = new LaneStore();
        x.put(0, 9, 2, 10, NONE);
        x.put(1, 8, 3, 11, NONE);
        x.put(2, 7, 4, 12, NONE);
        x.take(0);
        x.take(1);
        x.take(2);
        x.tick(1);
        x.done(0, 1);
        x.fail(2, 3, 50);
        x.put(3, 6, 5, 13, NONE);
        x.put(3, 5, 6, 14, 3);
        x.put(4, 4, 7, 15, NONE);
        x.put(4, 3, 8, 16, 5);
        x.cancel(5);
        return x;
    }

    private static void p23Store() {
        LaneStore x = oneOfEach();
        int[] want = {1, 1, 1, 1, 1, 1, 1, 1, 7, 4, 0, 3, 1, 8, 10, 2, 3, 32, 2};
        for (int what = 0; what < want.length; what++) {
            due("23 " + what, want[what], x.store(what));
        }
        due("23 -1", NONE, x.store(-1));
        due("23 19", NONE, x.store(19));
        x.take(9);
        due("23 refused", 1, x.store(10));
        x.put(0, 0, 1, 1, NONE);
        due("23 live", 2, x.store(12));
    }

    private static void p24Lane() {
        LaneStore x = oneOfEach();
        x.arrange(1, 0, 3);
        int[][] want = {
            {1, 12, 0, 5040, 0, 0, 2, 1, 6, 0},
            {3, 12, 0, 7560, 0, 1, 3, 1, 6, 1},
            {1, 12, 0, 10080, 0, 1, 4, 1, 6, 0},
            {1, 12, 0, 0, 1, 2, 0, 0, 6, 0}};
        for (int lane = 0; lane < want.length; lane++) {
            for (int what = 0; what < 10; what++) {
                due("24 lane " + lane + " " + what, want[lane][what], x.lane(lane, what));
            }
        }
        due("24 10", NONE, x.lane(0, 10));
        due("24 -1", NONE, x.lane(0, -1));
        due("24 lane 5", NONE, x.lane(5, 0));
        due("24 lane -1", NONE, x.lane(-1, 0));
        x.back(1, 2);
        x.take(3);
        due("24 each time", 2, x.lane(1, 7) + x.lane(3, 7));
    }

    private static void p25Task() {
        LaneStore x = oneOfEach();
        int[][] want = {
            {0, 9, 2, 10, NONE, 0, 4, 0, NONE, NONE, NONE, NONE, 1},
            {1, 8, 3, 11, NONE, 0, 3, 0, NONE, 1, 2, 10, NONE},
            {2, 7, 4, 12, NONE, 0, 2, 1, 3, NONE, NONE, NONE, NONE},
            {3, 6, 5, 13, NONE, 1, 0, 0, NONE, NONE, NONE, NONE, NONE},
            {3, 5, 6, 14, 3, 1, 1, 0, NONE, NONE, NONE, NONE, NONE},
            {4, 4, 7, 15, NONE, 1, 6, 0, NONE, NONE, NONE, NONE, NONE},
            {4, 3, 8, 16, 5, 1, 5, 0, NONE, NONE, NONE, NONE, NONE}};
        for (int task = 0; task < want.length; task++) {
            for (int what = 0; what < 13; what++) {
                due("25 task " + task + " " + what, want[task][what], x.task(task, what));
            }
            due("25 13", NONE, x.task(task, 13));
            due("25 -1", NONE, x.task(task, -1));
        }
        due("25 none such", NONE, x.task(7, 0));
        due("25 none such -1", NONE, x.task(-1, 0));
    }

    private static void p26Rank() {
        LaneStore x = oneOfEach();
        for (int task = 0; task < 7; task++) {
            due("26 " + task, (9 - task) * 8 - (task < 3 ? 0 : 1), x.rank(task));
        }
        due("26 none such", -1000000, x.rank(7));
        due("26 -1", -1000000, x.rank(-1));
        x.rule(0, 99);
        due("26 by age", 9 * 99, x.rank(0));
    }

    private static void p27Cause() {
        LaneStore x = oneOfEach();
        due("27 one", 1, x.cause(2, NONE));
        due("27 the first", 50, x.cause(2, 0));
        due("27 no second", NONE, x.cause(2, 1));
        due("27 -2", NONE, x.cause(2, -2));
        due("27 none", 0, x.cause(0, NONE));
        due("27 of none", NONE, x.cause(0, 0));
        due("27 by 101", 101, x.cause(6, 0));
        due("27 none such", NONE, x.cause(7, NONE));
        due("27 none such -1", NONE, x.cause(-1, NONE));
        LaneStore y = new LaneStore();
        y.rule(3, 1);
        y.rule(5, 9);
        y.put(0, 0, 1, 1, NONE);
        for (int i = 0; i < 23; i++) {
            y.take(0);
            y.fail(0, y.store(11), i + 1);
            y.pardon(1);
            due("27 kept", Math.min(i + 1, 20), y.cause(0, NONE));
            y.again(0);
        }
        due("27 the last kept", 20, y.cause(0, 19));
        due("27 no more", NONE, y.cause(0, 20));
    }

    private static void p28Worker() {
        LaneStore x = oneOfEach();
        int[][] want = {
            {NONE, NONE, NONE, 1, 1, 0},
            {1, 2, 10, 1, 0, 0},
            {NONE, NONE, NONE, 1, 0, 1},
            {NONE, NONE, NONE, 0, 0, 0}};
        for (int worker = 0; worker < want.length; worker++) {
            for (int what = 0; what < 6; what++) {
                due("28 worker " + worker + " " + what, want[worker][what], x.worker(worker, what));
            }
            due("28 6", NONE, x.worker(worker, 6));
            due("28 -1", NONE, x.worker(worker, -1));
        }
        due("28 worker 6", NONE, x.worker(6, 3));
        due("28 worker -1", NONE, x.worker(-1, 3));
        x.tick(9);
        due("28 by cause 0, too", 1, x.worker(1, 5));
    }

    private static void p29Timer() {
        LaneStore x = new LaneStore();
        x.tick(5);
        x.every(3, 2, 9, 88, 4);
        x.tick(8);
        int[] want = {3, 2, 9, 88, 4, 1, 1, 17};
        for (int what = 0; what < want.length; what++) {
            due("29 " + what, want[what], x.timer(0, what));
        }
        due("29 8", NONE, x.timer(0, 8));
        due("29 -1", NONE, x.timer(0, -1));
        due("29 timer 1", NONE, x.timer(1, 0));
        due("29 timer -1", NONE, x.timer(-1, 0));
    }

    private static void p30Waiting() {
        LaneStore x = new LaneStore();
        x.put(0, 3, 1, 1, NONE);
        x.put(0, 3, 1, 2, NONE);
        x.put(0, 9, 1, 3, 0);
        x.put(1, 9, 1, 4, NONE);
        x.tick(8);
        x.put(0, 4, 1, 5, NONE);
        x.put(0, 5, 1, 6, NONE);
        // Ranks 24, 24, -, -, 32 - 8, 40 - 8.
        int[] want = {5, 0, 1, 4, NONE};
        for (int k = 0; k < want.length; k++) {
            due("30 " + k, want[k], x.waiting(0, k));
        }
        due("30 -1", NONE, x.waiting(0, -1));
        due("30 lane 5", NONE, x.waiting(5, 0));
        due("30 lane -1", NONE, x.waiting(-1, 0));
        x.rule(0, 1);
        due("30 by age as it is", 0, x.waiting(0, 0));
    }

    private static void p31Keyed() {
        LaneStore x = oneOfEach();
        int[] want = {NONE, 1, 2, 3, 4, NONE, NONE, NONE};
        for (int i = 0; i < want.length; i++) {
            due("31 " + i, want[i], x.keyed(10 + i));
        }
        due("31 -1", NONE, x.keyed(-1));
        due("31 10000", NONE, x.keyed(10000));
    }

    private static void p32Resting() {
        LaneStore x = new LaneStore();
        for (int i = 0; i < 4; i++) {
            x.put(0, 9 - i, 1, i, NONE);
            x.take(i);
        }
        x.fail(3, 4, 1);
        x.fail(1, 2, 1);
        x.rule(2, 1);
        x.fail(2, 3, 1);
        int[] want = {2, 1, 3, NONE};
        for (int k = 0; k < want.length; k++) {
            due("32 " + k, want[k], x.resting(k));
        }
        due("32 -1", NONE, x.resting(-1));
    }

    private static void p33Aside() {
        LaneStore x = new LaneStore();
        x.rule(3, 1);
        for (int i = 0; i < 4; i++) {
            x.put(0, 9 - i, 1, i, NONE);
            x.take(i);
        }
        x.fail(3, 4, 1);
        x.fail(0, 1, 1);
        x.fail(2, 3, 1);
        int[] want = {3, 0, 2, NONE};
        for (int k = 0; k < want.length; k++) {
            due("33 " + k, want[k], x.aside(k));
        }
        due("33 -1", NONE, x.aside(-1));
        x.again(0);
        due("33 one less", 2, x.aside(1));
        x.take(0);
        x.fail(0, 5, 1);
        due("33 last now", 0, x.aside(2));
        // What stands again stands by its number.
        x.pardon(0);
        x.again(3);
        x.again(2);
        x.again(0);
        for (int i = 0; i < 3; i++) {
            x.take(i == 0 ? 0 : i + 1);
        }
        x.tick(10);
        for (int k = 0; k < 4; k++) {
            due("33 by numbers " + k, k, x.aside(k));
        }
    }

    private static void p34Ending() {
        LaneStore x = new LaneStore();
        for (int i = 0; i < 4; i++) {
            x.put(0, 9 - i, 1, i, NONE);
            x.take(i);
        }
        x.tick(1);
        x.beat(0, 1);
        x.beat(2, 3);
        x.done(3, 4);
        int[] want = {1, 0, 2, NONE};
        for (int k = 0; k < want.length; k++) {
            due("34 " + k, want[k], x.ending(k));
        }
        due("34 -1", NONE, x.ending(-1));
    }

    private static void p37Waits() {
        LaneStore x = new LaneStore();
        due("37 none together", 0, x.waits(0, 0));
        due("37 none the most", NONE, x.waits(0, 1));
        due("37 none the task", NONE, x.waits(0, 2));
        x.put(0, 0, 1, 1, NONE);
        x.put(0, 9, 1, 2, NONE);
        x.take(0);
        due("37 at once", 0, x.waits(0, 1));
        due("37 the task", 1, x.waits(0, 2));
        x.tick(5);
        x.back(0, 1);
        x.take(0);
        due("37 each time", 5, x.waits(0, 0));
        x.take(1);
        due("37 together", 10, x.waits(0, 0));
        due("37 the most", 5, x.waits(0, 1));
        due("37 the first of like ones", 1, x.waits(0, 2));
        x.back(1, 3);
        x.move(0, 3);
        x.tick(1);
        x.take(1);
        x.put(4, 0, 1, 9, NONE);
        x.tick(2);
        x.take(2);
        due("37 from came on", 2, x.waits(4, 1));
        due("37 of the lane of then", 6, x.waits(3, 0));
        due("37 the other stays", 10, x.waits(0, 0));
        due("37 lane 5", NONE, x.waits(5, 0));
        due("37 lane -1", NONE, x.waits(-1, 0));
        due("37 3", NONE, x.waits(0, 3));
        due("37 -1", NONE, x.waits(0, -1));
    }

    private static void p38Share() {
        LaneStore x = new LaneStore();
        due("38 none was taken", 0, x.share(0, 0));
        x.put(0, 0, 1, 1, NONE);
        x.put(1, 0, 2, 2, NONE);
        x.take(0);
        x.take(1);
        due("38 a third, cut", 333, x.share(0, 0));
        due("38 two thirds, cut", 666, x.share(1, 0));
        due("38 none of it", 0, x.share(2, 0));
        x.arrange(0, 0, 3);
        due("38 weight", 428, x.share(0, 1));
        due("38 weight of others", 142, x.share(4, 1));
        due("38 places", 11, x.share(0, 2));
        x.rule(4, 5);
        due("38 places of all", 3, x.share(0, 2));
        x.rule(4, 1);
        due("38 none", 0, x.share(0, 2));
        x.rule(4, 32);
        x.arrange(3, 1, 2);
        due("38 room of a lane", 2, x.share(3, 2));
        x.drain(3);
        due("38 not open", 0, x.share(3, 2));
        due("38 nobody waits", NONE, x.share(2, 3));
        due("38 sizes of nobody", 0, x.share(2, 4));
        x.tick(1);
        x.put(2, 0, 5, 3, NONE);
        x.put(2, 9, 6, 4, NONE);
        x.tick(1);
        x.put(2, 9, 7, 5, NONE);
        x.put(2, 9, 8, 6, 2);
        due("38 the least came, of like ones the least number", 2, x.share(2, 3));
        due("38 sizes", 18, x.share(2, 4));
        due("38 lane 5", NONE, x.share(5, 0));
        due("38 lane -1", NONE, x.share(-1, 0));
        due("38 5", NONE, x.share(0, 5));
        due("38 -1", NONE, x.share(0, -1));
    }

    private static void p39Path() {
        LaneStore x = oneOfEach();
        x.put(0, 0, 1, 1, 0);
        x.put(0, 0, 1, 2, 7);
        int[] want = {8, 7, 0, NONE, NONE};
        for (int k = 0; k < want.length; k++) {
            due("39 " + k, want[k], x.path(8, k));
        }
        due("39 through what is gone", 5, x.path(6, 1));
        due("39 -1", NONE, x.path(8, -1));
        due("39 far", NONE, x.path(8, Integer.MAX_VALUE));
        due("39 none such", NONE, x.path(9, 0));
        due("39 none such -1", NONE, x.path(-1, 0));
    }

    private static void p40AheadAnd41TurnOf() {
        LaneStore x = new LaneStore();
        due("40 nobody", NONE, x.ahead(0));
        x.arrange(0, 2, 1);
        x.put(0, 0, 1, 1, NONE);
        x.put(0, 5, 1, 2, NONE);
        x.put(0, 3, 9, 3, NONE);
        x.put(1, 0, 2, 4, NONE);
        x.put(1, 0, 2, 5, 0);
        x.put(2, 0, 2, 6, NONE);
        x.put(0, 0, 1, 7, NONE);
        // Lane 0: 1 (pass 2520), lanes 1, 2: 3, 5 (5040); 2 (25200); 0 and 6 at last.
        int[] want = {1, 3, 5, 2, 0, 6};
        for (int k = 0; k < want.length; k++) {
            due("40 " + k, want[k], x.ahead(k));
            due("41 " + k, k, x.turnOf(want[k]));
        }
        due("40 no more", NONE, x.ahead(6));
        due("40 -1", NONE, x.ahead(-1));
        due("41 held", NONE, x.turnOf(4));
        due("41 none such", NONE, x.turnOf(7));
        due("41 none such -1", NONE, x.turnOf(-1));
        due("40 nothing was taken", 6, x.store(1));
        due("40 no pass was paid", 0, x.lane(0, 3) + x.lane(1, 3));
        x.take(0);
        due("41 out", NONE, x.turnOf(1));
        due("40 no limit", 2, x.ahead(2));
        // By WEIGHT, AGE and CAME as they are.
        LaneStore y = new LaneStore();
        y.put(0, 1, 4, 1, NONE);
        y.put(1, 0, 4, 2, NONE);
        y.tick(5);
        y.put(0, 2, 4, 3, NONE);
        y.put(1, 0, 4, 4, NONE);
        due("40 by rank", 2, y.ahead(0));
        due("40 in turns", 1, y.ahead(1));
        y.rule(0, 3);
        due("40 by age", 0, y.ahead(0));
        y.arrange(0, 0, 9);
        due("40 by weight", 1, y.ahead(1));
        due("40 then", 2, y.ahead(2));
        y.arrange(1, 0, 2);
        y.put(0, 0, 4, 5, NONE);
        due("40 and on", 4, y.ahead(3));
    }

    private static void p42BestLane() {
        LaneStore x = new LaneStore();
        x.put(0, 9, 5, 1, NONE);
        x.put(0, 8, 5, 2, NONE);
        x.put(0, 0, 5, 3, NONE);
        x.put(1, 0, 5, 4, NONE);
        due("42 lane 1", 1, x.bestLane(2, 0));
        due("42 one ahead", 1, x.bestLane(2, 1));
        due("42 its own is first", 0, x.bestLane(0, 0));
        due("42 none ahead", 0, x.bestLane(0, 1));
        x.arrange(1, 1, 1);
        due("42 no room in lane 1", 2, x.bestLane(2, 0));
        due("42 two ahead", 2, x.bestLane(2, 1));
        x.drain(2);
        due("42 lane 2 is closed", 3, x.bestLane(2, 0));
        x.drain(3);
        x.drain(4);
        x.rule(4, 1);
        due("42 none but its own", 0, x.bestLane(2, 0));
        due("42 three ahead", 3, x.bestLane(2, 1));
        x.drain(0);
        due("42 its own, though draining", 0, x.bestLane(2, 0));
        due("42 what 2", NONE, x.bestLane(2, 2));
        due("42 what -1", NONE, x.bestLane(2, -1));
        due("42 none such", NONE, x.bestLane(4, 0));
        due("42 nothing moved", 0, x.task(2, 0));
        due("42 nothing closed", 1, x.lane(0, 2));
        x.take(0);
        due("42 out", NONE, x.bestLane(0, 0));
    }

    private static void p43Chain() {
        LaneStore x = new LaneStore();
        x.put(0, 0, 3, 1, NONE);
        x.put(0, 0, 4, 2, 0);
        x.put(0, 0, 5, 3, 1);
        due("43 sizes", 12, x.chain(2, 0));
        due("43 how many", 3, x.chain(2, 1));
        x.take(0);
        due("43 out counts", 12, x.chain(2, 0));
        x.done(0, 1);
        due("43 done does not", 9, x.chain(2, 0));
        due("43 two", 2, x.chain(2, 1));
        due("43 a done one itself", 3, x.chain(0, 0));
        x.cancel(1);
        due("43 gone counts", 9, x.chain(2, 0));
        due("43 what 2", NONE, x.chain(2, 2));
        due("43 what -1", NONE, x.chain(2, -1));
        due("43 none such", NONE, x.chain(3, 0));
        due("43 none such -1", NONE, x.chain(-1, 0));
    }

    private static void p44Lapse() {
        LaneStore x = new LaneStore();
        x.put(0, 9, 1, 1, NONE);
        x.put(0, 8, 1, 2, NONE);
        x.put(0, 7, 1, 3, NONE);
        x.put(0, 0, 1, 4, 0);
        x.put(0, 0, 1, 5, 3);
        x.put(0, 0, 1, 6, 1);
        x.take(0);
        x.take(1);
        x.take(2);
        x.rule(2, 4);
        x.fail(2, 3, 1);
        x.tick(2);
        x.beat(1, 2);
        x.rule(2, 1);
        // 0 ends at 10, 1 at 12, 2 is due at 4.
        due("44 1: none wakes", 0, x.lapse(1, 2));
        due("44 2: one wakes", 1, x.lapse(2, 2));
        due("44 7: none fails", 0, x.lapse(7, 0));
        due("44 8: one fails", 1, x.lapse(8, 0));
        due("44 8: it rests", 1, x.lapse(8, 2));
        due("44 9: it wakes", 2, x.lapse(9, 2));
        due("44 99: two fail", 2, x.lapse(99, 0));
        due("44 99: none aside", 0, x.lapse(99, 1));
        due("44 99: all wake", 3, x.lapse(99, 2));
        x.rule(3, 1);
        due("44 8: three aside", 3, x.lapse(8, 1));
        due("44 99: five aside", 5, x.lapse(99, 1));
        due("44 99: one wakes", 1, x.lapse(99, 2));
        LaneStore y = new LaneStore();
        y.put(0, 0, 1, 1, NONE);
        y.take(0);
        y.fail(0, 1, 1);
        y.tick(2);
        y.take(0);
        // It ends at 12, and rests 4 then.
        due("44 13: rests yet", 0, y.lapse(13, 2));
        due("44 14: wakes", 1, y.lapse(14, 2));
        due("44 0", NONE, x.lapse(0, 0));
        due("44 100", NONE, x.lapse(100, 0));
        due("44 what 3", NONE, x.lapse(1, 3));
        due("44 what -1", NONE, x.lapse(1, -1));
        due("44 nothing happened", 2, x.store(0) + x.store(6));
    }

    private static void p45Safe() {
        LaneStore x = new LaneStore();
        x.put(0, 3, 1, 1, NONE);
        x.put(0, 9, 1, 2, NONE);
        x.put(0, 0, 1, 3, 0);
        due("45 later", 48, x.safe(0));
        due("45 at once", 0, x.safe(1));
        x.tick(40);
        due("45 the same tick", 48, x.safe(0));
        due("45 this", 40, x.safe(1));
        x.put(0, 9, 1, 4, NONE);
        due("45 came", 40, x.safe(3));
        x.tick(9);
        due("45 safe", 49, x.safe(0));
        x.rule(0, 10);
        due("45 by age", 60, x.safe(0));
        due("45 held", NONE, x.safe(2));
        due("45 none such", NONE, x.safe(4));
        due("45 none such -1", NONE, x.safe(-1));
        // At that tick one of priority 9 comes behind it, a tick sooner ahead.
        LaneStore y = new LaneStore();
        y.put(0, 8, 1, 1, NONE);
        y.tick(7);
        y.put(0, 9, 1, 2, NONE);
        due("45 a tick sooner", 1, y.waiting(0, 0));
        y.cancel(1);
        y.tick(1);
        y.put(0, 9, 1, 2, NONE);
        due("45 then", 0, y.waiting(0, 0));
        due("45 said", 8, y.safe(0));
    }

    private static void p46Finish() {
        LaneStore x = new LaneStore();
        x.put(0, 5, 4, 1, NONE);
        x.put(0, 4, 3, 2, NONE);
        x.put(1, 0, 6, 3, NONE);
        x.put(1, 0, 2, 4, 0);
        // One: 4, 6, 3, 2. Two: 0 (0-4), 2 (0-6), 1 (4-7), 3 (6-8).
        due("46 one", 15, x.finish(1, 0));
        due("46 one last", 3, x.finish(1, 1));
        due("46 one idle", 0, x.finish(1, 2));
        due("46 two", 8, x.finish(2, 0));
        due("46 two last", 3, x.finish(2, 1));
        due("46 two idle", 1, x.finish(2, 2));
        // Three: 0 (0-4), 2 (0-6), 1 (0-3), 3 (4-6).
        due("46 three", 6, x.finish(3, 0));
        due("46 three last, the greatest number", 3, x.finish(3, 1));
        due("46 three idle", 3, x.finish(3, 2));
        x.take(5);
        // 0 is done now: 2 (0-6), 1 (0-3), 3 (0-2).
        due("46 what is out is done", 6, x.finish(3, 0));
        due("46 what is last", 2, x.finish(3, 1));
        due("46 idle", 4 + 3, x.finish(3, 2));
        x.arrange(1, 2, 1);
        due("46 by the limit", 8, x.finish(3, 0));
        due("46 w 0", NONE, x.finish(0, 0));
        due("46 w 7", NONE, x.finish(7, 0));
        due("46 what 3", NONE, x.finish(1, 3));
        due("46 what -1", NONE, x.finish(1, -1));
        due("46 nothing happened", 3, x.task(0, 6));
        LaneStore y = new LaneStore();
        y.put(0, 0, 2, 1, NONE);
        y.take(0);
        due("46 all are out", 0, y.finish(1, 0));
        due("46 it is the last, done now", 0, y.finish(1, 1));
        due("46 no tick, none idle", 0, y.finish(6, 2));
        y.rule(2, 5);
        y.fail(0, 1, 1);
        y.every(1, 0, 20, 9, 1);
        due("46 rests, then 2", 7, y.finish(2, 0));
        due("46 idle while it rests", 12, y.finish(2, 2));
        y.tick(3);
        y.cancel(1);
        due("46 less then", 4, y.finish(1, 0));
        due("46 no timer", 0, y.finish(1, 1));
        // At 3: 0 is due at 5, of size 2; 2 of size 4 waits. 2 (0-4), 0 (2-4).
        y.put(2, 0, 4, 5, NONE);
        due("46 both", 4, y.finish(2, 0));
        due("46 both, the greatest", y.store(8) - 1, y.finish(2, 1));
        due("46 idle till it is due", 2, y.finish(2, 2));
        due("46 one after the other", 6, y.finish(1, 0));
        due("46 then it is last", 0, y.finish(1, 1));
        p46LastOfThoseOut();
    }

    private static void p46LastOfThoseOut() {
        LaneStore x = new LaneStore();
        due("46 none stands, none is last", NONE, x.finish(1, 1));
        x.put(0, 0, 5, 1, NONE);
        x.put(1, 0, 5, 2, NONE);
        x.put(2, 9, 1, 3, NONE);
        x.put(3, 0, 1, 4, 0);
        x.take(4);
        x.take(2);
        x.take(0);
        // 3 waits once 0 is DONE, and is DONE behind all that are OUT.
        due("46 one that was held", 3, x.finish(1, 1));
        x.cancel(3);
        due("46 of those out the greatest number", 2, x.finish(1, 1));
        due("46 by as many as there are", 2, x.finish(6, 1));
        due("46 in no tick", 0, x.finish(1, 0));
        x.done(0, x.worker(0, 1));
        due("46 of those out yet", 1, x.finish(3, 1));
        x.hand(4, x.worker(4, 1), 5);
        due("46 not by workers", 1, x.finish(1, 1));
        x.back(2, x.worker(2, 1));
        due("46 one that waits is behind those out", 1, x.finish(1, 1));
        x.take(0);
        x.fail(0, x.worker(0, 1), 7);
        due("46 one that rests, too", 1, x.finish(1, 1));
        x.cancel(1);
        due("46 one is out", 0, x.finish(1, 1));
        x.done(5, x.worker(5, 1));
        due("46 all are done or gone", NONE, x.finish(1, 1));
    }

    private static void p47Empties() {
        LaneStore x = new LaneStore();
        x.put(0, 5, 4, 1, NONE);
        x.put(0, 4, 3, 2, NONE);
        x.put(1, 0, 6, 3, NONE);
        x.put(2, 0, 2, 4, NONE);
        // One: 0 (0-4), 2 (4-10), 3 (10-12), 1 (12-15).
        due("47 lane 0", 15, x.empties(0, 1));
        due("47 lane 1", 10, x.empties(1, 1));
        due("47 lane 2", 12, x.empties(2, 1));
        due("47 lane 3", 0, x.empties(3, 1));
        due("47 six", 4, x.empties(0, 6));
        x.take(0);
        due("47 one is out", 15 - 4, x.empties(0, 1));
        x.take(1);
        due("47 all are out", 0, x.empties(1, 1));
        due("47 lane 2 alone", 2, x.empties(2, 2));
        x.cancel(3);
        due("47 afresh each time", 0, x.empties(2, 2));
        // What is OUT counts for the LIMIT no more.
        x.arrange(0, 2, 1);
        x.put(0, 4, 3, 9, NONE);
        due("47 one by one", 6, x.empties(0, 6));
        due("47 lane 5", NONE, x.empties(5, 1));
        due("47 lane -1", NONE, x.empties(-1, 1));
        due("47 w 0", NONE, x.empties(0, 0));
        due("47 w 7", NONE, x.empties(0, 7));
    }

    private static void p48Enough() {
        LaneStore x = new LaneStore();
        due("48 none stands", 1, x.enough(0));
        x.put(0, 5, 4, 1, NONE);
        x.put(0, 4, 3, 2, NONE);
        x.put(1, 0, 6, 3, NONE);
        x.put(2, 0, 2, 4, NONE);
        due("48 one", 1, x.enough(15));
        due("48 not one", 2, x.enough(14));
        due("48 three", 3, x.enough(6));
        due("48 by none", NONE, x.enough(5));
        due("48 zero", NONE, x.enough(0));
        due("48 below 0", NONE, x.enough(-1));
        due("48 any", 1, x.enough(Integer.MAX_VALUE));
        // Two: 0 (0-4), 2 (0-6), 3 (4-6), 1 (6-9).
        due("48 two", 2, x.enough(9));
        due("48 not two", 3, x.enough(8));
        LaneStore y = new LaneStore();
        for (int i = 0; i < 6; i++) {
            y.put(i % 5, 0, 5, i, NONE);
        }
        due("48 all six", 6, y.enough(5));
        due("48 three in two turns", 3, y.enough(10));
    }

    private static void p49Hangs() {
        LaneStore x = new LaneStore();
        x.rule(3, 1);
        x.put(0, 9, 1, 0, NONE);
        x.put(0, 0, 1, 1, 0);
        x.put(0, 0, 1, 2, 0);
        x.put(0, 0, 1, 3, 1);
        x.put(0, 0, 1, 4, 3);
        x.put(0, 0, 1, 5, NONE);
        due("49 all", 4, x.hangs(0));
        due("49 two", 2, x.hangs(1));
        due("49 none", 0, x.hangs(4));
        x.cancel(1);
        due("49 through what is gone: none", 1, x.hangs(0));
        due("49 on what is gone", 2, x.hangs(1));
        due("49 aside hangs", 1, x.hangs(3));
        x.take(0);
        x.done(0, 1);
        due("49 on what is done", 1, x.hangs(0));
        x.put(0, 9, 1, 6, 2);
        x.raise(2, 9);
        x.take(0);
        x.done(0, 2);
        due("49 2 is done", 4, x.task(2, 6));
        due("49 what is done does not hang", 0, x.hangs(0));
        due("49 none such", NONE, x.hangs(7));
        due("49 none such -1", NONE, x.hangs(-1));
    }

    private static void p50Spread() {
        LaneStore x = new LaneStore();
        due("50 none is live", NONE, x.spread(0));
        due("50 no lane", NONE, x.spread(1));
        x.put(1, 0, 2, 1, NONE);
        x.put(1, 0, 2, 2, NONE);
        due("50 one", 0, x.spread(0));
        due("50 greatest", 1, x.spread(1));
        due("50 least", 1, x.spread(2));
        x.put(2, 0, 3, 3, NONE);
        x.put(2, 0, 3, 4, NONE);
        x.put(3, 0, 3, 5, NONE);
        x.put(3, 0, 3, 6, NONE);
        due("50 of like ones the first", 1, x.spread(1));
        due("50 of like ones the first least", 1, x.spread(2));
        x.take(0);
        x.take(1);
        x.take(2);
        due("50 difference", 2520, x.spread(0));
        due("50 greatest, first", 2, x.spread(1));
        due("50 least now", 1, x.spread(2));
        x.take(3);
        due("50 lane 1 is not live", 0, x.spread(0));
        due("50 lane 2", 2, x.spread(2));
        due("50 what 3", NONE, x.spread(3));
        due("50 what -1", NONE, x.spread(-1));
    }

    private static void p51BlamedAnd52Worst() {
        LaneStore x = new LaneStore();
        due("52 none", NONE, x.worst());
        x.rule(3, 1);
        int[] causes = {7, 5, 7, 5};
        for (int i = 0; i < causes.length; i++) {
            x.put(0, 0, 1, i, NONE);
            failToTheEnd(x, 0, i, causes[i]);
        }
        due("51 two", 2, x.blamed(7));
        due("51 none", 0, x.blamed(6));
        due("52 of like ones the least", 5, x.worst());
        x.discard(1);
        due("51 one", 1, x.blamed(5));
        due("52 most", 7, x.worst());
        x.again(0);
        failToTheEnd(x, 0, 0, 9);
        due("51 the latest of each", 1, x.blamed(7));
        x.put(0, 0, 1, 20, NONE);
        x.put(0, 0, 1, 21, 4);
        x.put(0, 0, 1, 22, 5);
        x.cancel(4);
        due("51 101", 1, x.blamed(101));
        due("51 100", 1, x.blamed(100));
        x.put(0, 0, 1, 23, NONE);
        x.take(0);
        x.tick(10);
        due("51 0", 1, x.blamed(0));
        x.put(0, 0, 1, 24, NONE);
        x.put(0, 0, 1, 25, 8);
        x.put(0, 0, 1, 26, 8);
        x.cancel(8);
        due("52 101", 101, x.worst());
        x.discard(9);
        x.discard(10);
        due("52 the least", 0, x.worst());
        due("51 -1", NONE, x.blamed(-1));
        due("51 102", NONE, x.blamed(102));
        p51BlamedPastThoseKept();
    }

    private static void p51BlamedPastThoseKept() {
        LaneStore x = new LaneStore();
        x.rule(3, 1);
        x.put(0, 0, 1, 5, NONE);
        for (int i = 1; i <= 24; i++) {
            failToTheEnd(x, 0, 0, i);
            due("51 the latest, " + i + " in all", 1, x.blamed(i));
            due("51 not the one ahead of it, " + i, 0, x.blamed(i - 1));
            due("52 the latest, " + i + " in all", i, x.worst());
            x.pardon(5);
            x.again(0);
        }
        due("51 none is aside", 0, x.blamed(24));
        due("52 none is aside", NONE, x.worst());
        x.take(0);
        x.tick(10);
        due("51 0 past those kept", 1, x.blamed(0));
        due("52 0 past those kept", 0, x.worst());
        due("27 kept as before", 20, x.cause(0, NONE));
        due("27 the last kept as before", 20, x.cause(0, 19));
        due("27 no more than before", NONE, x.cause(0, 20));
        LaneStore y = new LaneStore();
        y.rule(3, 1);
        y.put(0, 0, 1, 6, NONE);
        y.put(0, 0, 1, 7, 0);
        for (int i = 1; i <= 21; i++) {
            failToTheEnd(y, 0, 0, 3);
            y.pardon(6);
            due("51 behind it, " + i, 1, y.blamed(100));
            y.again(0);
            y.again(1);
        }
        y.cancel(0);
        due("51 101 past those kept", 1, y.blamed(101));
        due("51 no longer 100", 0, y.blamed(100));
        due("52 101 past those kept", 101, y.worst());
    }

    private static void line(LaneStore x, int k, int... want) {
        for (int what = 0; what < want.length; what++) {
            due("53 line " + k + " what " + what, want[what], x.log(k, what));
        }
    }

    private static void p53Log() {
        LaneStore x = new LaneStore();
        due("53 none", -2, x.log(0, 0));
        x.put(0, 0, 1, 1, NONE);
        x.put(1, 0, 1, 2, 0);
        line(x, 0, 0, 0, 1, 1, NONE, 0);
        line(x, 1, 0, 0, 0, 0, NONE, 0);
        x.tick(1);
        x.take(4);
        line(x, 0, 1, 1, 0, 0, 4, 0);
        x.fail(4, 1, 33);
        line(x, 0, 1, 3, 0, 0, 4, 33);
        x.tick(2);
        line(x, 0, 3, 5, 0, 0, NONE, 0);
        x.take(3);
        x.done(3, 2);
        line(x, 1, 3, 2, 0, 0, 3, 0);
        line(x, 0, 3, 5, 1, 1, NONE, 0);
        x.move(1, 2);
        line(x, 0, 3, 7, 1, 2, NONE, 0);
        x.rule(3, 1);
        x.put(4, 0, 1, 3, 1);
        x.take(5);
        x.fail(5, 3, 44);
        line(x, 2, 3, 3, 1, 2, 5, 44);
        line(x, 1, 3, 4, 1, 2, NONE, 44);
        line(x, 0, 3, 4, 2, 4, NONE, 100);
        x.again(1);
        line(x, 0, 3, 8, 1, 2, NONE, 0);
        x.cancel(1);
        line(x, 0, 3, 6, 1, 2, NONE, 0);
        x.discard(2);
        line(x, 0, 3, 6, 2, 4, NONE, 0);
        due("53 what 6", -2, x.log(0, 6));
        due("53 what -1", -2, x.log(0, -1));
        due("53 k -1", -2, x.log(-1, 0));
        line(x, 16, 0, 0, 0, 0, NONE, 0);
        due("53 before the first", -2, x.log(17, 0));
        x.put(0, 0, 1, 4, NONE);
        for (int i = 0; i < 63; i++) {
            x.move(3, (i + 1) % 2);
        }
        line(x, 63, 3, 0, 3, 0, NONE, 0);
        due("53 64 are kept", -2, x.log(64, 0));
        x.move(3, 0);
        line(x, 63, 3, 7, 3, 1, NONE, 0);
        due("53 64 yet", -2, x.log(64, 0));
    }
}
