import java.math.BigInteger;

/** Each sentence of the document's terms that names an edge: what is just allowed, and what is just not any more. */
public final class EdgesOfTerms {
    private static final int NONE = LaneStore.NONE;
    private static final int LEAST = Integer.MIN_VALUE;
    private static final int MOST = Integer.MAX_VALUE;

    public static void main(String[] args) {
        lanes();
        ofALane();
        rules();
        lease();
        restAndTries();
        roomOfAll();
        roomOfALane();
        lessRoom();
        ban();
        workers();
        fourHundred();
        refusedAtFourHundred();
        bounds();
        stands();
        comes();
        rank();
        pass();
        passBesideALimit();
        theLane();
        limit();
        firstOfALane();
        taking();
        weights();
        done();
        failing();
        behindIt();
        strikes();
        oneTick();
        skipped();
        timersAreLast();
        drained();
        timers();
        moved();
        tried();
        takenOn();
        safe();
        finish();
        fullStoreOfHeld();
        fullStoreOfResting();
        fullStoreFinishes();
        finishByTheMostTurns();
        hangs();
        log();
        steps();
        everyCallAtItsFarthest();
        Probe.end(0, 0);
    }

    private static void term(String words) {
        Probe.sentence(0, words);
    }

    private static void lanes() {
        term("LANES 0 .. 4");
        Probe s = new Probe();
        s.does("put", 0, 0, 1, 1, NONE);
        for (int lane : new int[] {-1, 5, LEAST, MOST}) {
            s.refuses(-2, "put", lane, 0, 1, 2, NONE);
            s.refuses(-2, "every", lane, 0, 1, 2, 1);
            s.refuses(-2, "drain", lane);
            s.refuses(-2, "open", lane);
            s.refuses(-2, "move", 0, lane);
            s.refuses(-2, "arrange", lane, 0, 1);
            s.none("lane", lane, 0);
            s.none("waiting", lane, 0);
            s.none("waits", lane, 0);
            s.none("share", lane, 0);
            s.none("empties", lane, 1);
        }
        s.is(24, "store", 10);
        for (int lane : new int[] {0, 4}) {
            Probe t = new Probe();
            t.is(0, "put", lane, 0, 1, 1, NONE);
            t.is(0, "every", lane, 0, 1, 2, 1);
            t.is(0, "waiting", lane, 0);
            t.is(0, "waits", lane, 0);
            t.is(200, "share", lane, 1);
            t.is(1, "empties", lane, 1);
            t.is(1, "arrange", lane, 0, 2);
            t.is(2, "lane", lane, 0);
            t.is(0, "move", 0, 2);
            t.is(0, "move", 0, lane);
            t.is(1, "drain", lane);
            t.is(0, "open", lane);
            t.is(0, "store", 10);
        }
    }

    private static void ofALane() {
        term("a WEIGHT (1 .. 9; 1), ROOM (1 .. 32; 12), a LIMIT (1 .. 6; 6), is OPEN (at first), DRAINING or CLOSED, a PASS (0)");
        int[] first = {1, 12, 6};
        int[] top = {9, 32, 6};
        int[] told = {0, 1, 8};
        for (int lane = 0; lane < 5; lane++) {
            Probe s = new Probe();
            s.is(0, "lane", lane, 2);
            s.is(0, "lane", lane, 3);
            for (int what = 0; what < 3; what++) {
                s.is(first[what], "lane", lane, told[what]);
                s.refuses(-2, "arrange", lane, what, 0);
                s.refuses(-2, "arrange", lane, what, top[what] + 1);
                s.is(first[what], "arrange", lane, what, 1);
                s.is(1, "lane", lane, told[what]);
                s.is(1, "arrange", lane, what, top[what]);
                s.is(top[what], "lane", lane, told[what]);
            }
        }
    }

    private static void rules() {
        term("RULES: AGE (1 .. 99; 8), LEASE (1 .. 99; 10), REST (1 .. 20; 2), TRIES (1 .. 9; 3), ROOM of all (1 .. 48; 32), BAN (1 .. 9; 2)");
        int[] first = {8, 10, 2, 3, 32, 2};
        int[] top = {99, 99, 20, 9, 48, 9};
        Probe s = new Probe();
        for (int what = 0; what < 6; what++) {
            s.is(first[what], "store", 13 + what);
            s.refuses(-2, "rule", what, 0);
            s.refuses(-2, "rule", what, top[what] + 1);
            s.is(first[what], "rule", what, 1);
            s.is(1, "store", 13 + what);
            s.is(1, "rule", what, top[what]);
            s.is(top[what], "store", 13 + what);
        }
    }

    private static void lease() {
        term("ENDS LEASE behind TICK");
        for (int lease : new int[] {1, 2, 98, 99}) {
            Probe s = new Probe();
            s.does("rule", 1, lease).does("tick", 3).does("put", 0, 9, 1, 1, NONE);
            s.taken(0, 0);
            s.is(3 + lease, "task", 0, 11);
            if (lease > 1) {
                s.does("tick", lease - 1);
            }
            s.is(3, "task", 0, 6);
            s.does("tick", 1);
            s.is(2, "task", 0, 6);
        }
    }

    private static void restAndTries() {
        term("else it RESTS, DUE at TICK and REST times 2 to TRIED less 1");
        for (int rest : new int[] {1, 2, 20}) {
            Probe s = new Probe();
            s.does("rule", 2, rest).does("rule", 3, 9).does("put", 0, 0, 1, 1, NONE);
            int now = 0;
            for (int tried = 1; tried <= 8; tried++) {
                s.failed(0, 0, 1);
                int lasts = rest << (tried - 1);
                s.is(now + lasts, "task", 0, 8);
                s.is(tried, "task", 0, 7);
                for (int left = lasts - 1; left > 0; left -= 99) {
                    s.does("tick", Math.min(left, 99));
                }
                s.is(2, "task", 0, 6);
                s.does("tick", 1);
                s.is(0, "task", 0, 6);
                now += lasts;
            }
        }
        term("is it TRIES then or more, it is ASIDE");
        for (int tries = 1; tries <= 9; tries++) {
            Probe s = new Probe();
            s.does("rule", 3, tries).does("rule", 2, 1).does("put", 0, 0, 1, 1, NONE);
            for (int tried = 1; tried < tries; tried++) {
                s.is(2, "fail", 0, s.taken(0, 0), 1);
                for (int left = 1 << (tried - 1); left > 0; left -= 99) {
                    s.does("tick", Math.min(left, 99));
                }
            }
            s.is(5, "fail", 0, s.taken(0, 0), 1);
            s.is(tries, "task", 0, 7);
        }
        Probe s = new Probe();
        s.does("put", 0, 0, 1, 1, NONE);
        s.failed(0, 0, 1);
        s.does("tick", 2);
        s.failed(0, 0, 1);
        s.does("rule", 3, 1).is(2, "task", 0, 6);
        s.does("tick", 4).is(0, "task", 0, 6);
        s.is(5, "fail", 0, s.taken(0, 0), 1);
        s.is(3, "task", 0, 7);
    }

    private static void roomOfAll() {
        term("ROOM of all (1 .. 48; 32)");
        for (int room : new int[] {1, 2, 32, 47, 48}) {
            Probe s = new Probe();
            s.does("rule", 4, room).does("arrange", 0, 1, 32).does("arrange", 1, 1, 32);
            for (int i = 0; i < room; i++) {
                s.is(i, "put", i < 31 ? 0 : 1, 0, 1, i, NONE);
            }
            s.refuses(-4, "put", 2, 0, 1, 900, NONE);
            s.is(room, "store", 9);
            s.completed(0, 0);
            s.is(room, "put", 2, 0, 1, 900, NONE);
            s.refuses(-4, "put", 3, 0, 1, 901, NONE);
        }
    }

    private static void roomOfALane() {
        term("ROOM is there in a LANE, in all, if fewer STAND.");
        for (int room : new int[] {1, 2, 12, 31, 32}) {
            Probe s = new Probe();
            s.does("rule", 4, 48).does("arrange", 3, 1, room);
            for (int i = 0; i < room; i++) {
                s.is(i, "put", 3, 0, 1, i, NONE);
            }
            s.refuses(-4, "put", 3, 0, 1, 900, NONE);
            s.is(room, "put", 2, 0, 1, 900, NONE);
            s.refuses(-4, "move", room, 3);
            s.does("cancel", 0).is(0, "move", room, 3);
            s.refuses(-4, "put", 3, 0, 1, 901, NONE);
        }
        // Of one that WAITS, is HELD, RESTS, is OUT each has its place.
        Probe s = new Probe();
        s.does("arrange", 0, 1, 4);
        s.does("put", 0, 9, 1, 1, NONE).does("put", 0, 8, 1, 2, NONE);
        s.failed(0, 0, 1);
        int token = s.taken(0, 1);
        s.does("put", 0, 0, 1, 3, NONE).does("put", 0, 0, 1, 4, 1);
        s.refuses(-4, "put", 0, 0, 1, 5, NONE);
        // Those that are DONE, ASIDE, GONE have none.
        s.twin().does("done", 0, token).is(4, "put", 0, 0, 1, 5, NONE);
        s.twin().does("cancel", 2).is(4, "put", 0, 0, 1, 5, NONE);
        s.does("rule", 3, 1).does("fail", 0, token, 1).is(2, "store", 6);
        s.is(4, "put", 0, 0, 1, 5, NONE);
        s.is(5, "put", 0, 0, 1, 6, NONE);
        s.refuses(-4, "put", 0, 0, 1, 7, NONE);
    }

    private static void lessRoom() {
        term("(Less ROOM throws nothing out.)");
        Probe s = new Probe();
        for (int i = 0; i < 3; i++) {
            s.does("put", 0, 0, 1, i, NONE);
        }
        s.does("arrange", 0, 1, 1).is(3, "lane", 0, 5);
        for (int i = 0; i < 3; i++) {
            s.refuses(-4, "put", 0, 0, 1, 9, NONE);
            s.completed(0, i);
        }
        s.is(3, "put", 0, 0, 1, 9, NONE);
        s = new Probe();
        for (int i = 0; i < 3; i++) {
            s.does("put", i, 0, 1, i, NONE);
        }
        s.does("rule", 4, 1).is(3, "store", 9);
        for (int i = 0; i < 3; i++) {
            s.refuses(-4, "put", 4, 0, 1, 9, NONE);
            s.completed(0, i);
        }
        s.is(3, "put", 4, 0, 1, 9, NONE);
    }

    private static void ban() {
        term("with BAN of these or more it is BANNED");
        for (int ban = 1; ban <= 9; ban++) {
            Probe s = new Probe();
            s.does("rule", 3, 1).does("rule", 5, ban);
            for (int strike = 0; strike < ban; strike++) {
                s.is(strike, "strikes", 7);
                s.none("banned", 0);
                s.is(strike, "put", 0, 0, 1, 7, NONE);
                s.failed(0, strike, 1);
            }
            s.is(ban, "strikes", 7);
            s.is(7, "banned", 0);
            s.refuses(-7, "put", 0, 0, 1, 7, NONE);
            s.refuses(-7, "again", 0);
            // One STRIKE more than BAN; one less than it.
            if (ban > 1) {
                s.does("rule", 5, ban - 1).is(7, "banned", 0);
                s.refuses(-7, "put", 0, 0, 1, 7, NONE);
            }
            if (ban < 9) {
                s.does("rule", 5, ban + 1).none("banned", 0);
                s.is(ban, "put", 0, 0, 1, 7, NONE);
            }
        }
    }

    private static void workers() {
        term("WORKERS 0 .. 5.");
        Probe s = new Probe();
        s.does("put", 0, 0, 1, 1, NONE).does("put", 0, 0, 1, 2, NONE);
        int token = s.taken(0, 0);
        for (int worker : new int[] {-1, 6, LEAST, MOST}) {
            s.refuses(-2, "take", worker);
            s.refuses(-2, "done", worker, token);
            s.refuses(-2, "fail", worker, token, 1);
            s.refuses(-2, "beat", worker, token);
            s.refuses(-2, "back", worker, token);
            s.refuses(-2, "hand", worker, token, 1);
            s.refuses(-2, "hand", 0, token, worker);
            s.none("worker", worker, 3);
        }
        s.is(0, "hand", 0, token, 5);
        s.is(10, "beat", 5, token);
        s.is(0, "back", 5, token);
        s.is(0, "take", 5);
        s.is(2, "fail", 5, token + 1, 1);
        s.is(1, "take", 5);
        s.is(1, "done", 5, token + 2);
        s.is(2, "worker", 5, 3);
    }

    private static void fourHundred() {
        term("TASKS have numbers, from 0 on as they come (400 in all)");
        new Probe().is(0, "put", 0, 0, 1, 1, NONE);
        Probe s = Scenes.almostAll();
        s.is(398, "store", 8);
        s.is(2, "share", 0, 2);
        int key = Scenes.unusedKey(s);
        s.is(398, "put", 0, 0, 1, key, NONE);
        s.does("cancel", 398);
        Probe t = s.twin();
        Probe u = s.twin();
        s.is(1, "share", 0, 2);
        s.is(399, "put", 0, 0, 1, key, NONE);
        s.is(0, "share", 0, 2);
        s.is(399, "keyed", key);
        s.does("cancel", 399);
        s.refuses(-6, "put", 0, 0, 1, key, NONE);
        s.is(400, "store", 8);
        s.none("task", 400, 0);
        s.is(-1000000, "rank", 400);
        s.refuses(-2, "cancel", 400);
        // By a TIMER the 400th comes, the next is SKIPPED; both are of one TICK.
        t.does("every", 0, 0, 1, key, 1).does("every", 1, 0, 1, key + 1, 1);
        int refused = (int) t.peek("store", 10);
        t.does("tick", 1);
        t.is(1, "timer", 0, 5);
        t.is(0, "timer", 1, 5);
        t.is(1, "timer", 1, 6);
        t.is(400, "store", 8);
        t.is(refused, "store", 10);
        // By STEPS no more come, and those are not counted.
        int before = (int) u.peek("store", 10);
        u.does("steps", 2199, 60).is(400, "store", 8);
        u.does("steps", 609, 60).is(400, "store", 8);
        u.is(before, "store", 10);
        int sum = 0;
        for (int what = 1; what <= 7; what++) {
            sum += u.ask("store", what);
        }
        Probe.due("counts together", 400, sum);
    }

    private static void refusedAtFourHundred() {
        term("-6 there were 400, -7 it is BANNED; of several the greatest.");
        Probe s = Scenes.almostAll();
        int key = Scenes.unusedKey(s);
        s.does("put", 0, 0, 1, key, NONE).does("put", 1, 0, 1, key + 1, NONE);
        s.does("rule", 5, 1);
        int banned = (int) s.peek("banned", 0);
        s.refuses(-6, "put", 0, 0, 1, key + 2, NONE);
        s.refuses(-6, "put", 0, 0, 1, banned, NONE);
        s.refuses(-5, "put", 0, 0, 1, key, NONE);
        s.refuses(-2, "put", 5, 0, 1, key + 2, NONE);
        s.refuses(-2, "put", 0, 0, 1, key + 2, 400);
        // One that is ASIDE is tried again all the same: it has come already.
        int aside = (int) s.peek("aside", 0);
        s.does("rule", 5, 9).is(0, "again", aside);
        s.does("rule", 5, 1);
        s.refuses(-3, "put", 0, 0, 1, key + 2, (int) s.peek("aside", 0));
        s.does("arrange", 0, 1, 1);
        s.refuses(-4, "put", 0, 0, 1, key + 2, NONE);
        s.refuses(-4, "put", 0, 0, 1, banned, NONE);
        s.refuses(-4, "put", 0, 0, 1, key, NONE);
        s.does("drain", 0);
        s.refuses(-3, "put", 0, 0, 1, key + 2, NONE);
    }

    private static void bounds() {
        term("a PRIORITY (0 .. 9), a SIZE (1 .. 20), a KEY (0 .. 9999), perhaps one BEHIND which it comes");
        int[] least = {0, 1, 0};
        int[] most = {9, 20, 9999};
        Probe s = new Probe();
        for (int at = 0; at < 3; at++) {
            for (int v : new int[] {least[at] - 1, most[at] + 1, LEAST, MOST}) {
                int[] a = {4, 10, 50};
                a[at] = v;
                s.refuses(-2, "put", 0, a[0], a[1], a[2], NONE);
                s.refuses(-2, "every", 0, a[0], a[1], a[2], 1);
            }
            for (int v : new int[] {least[at], most[at]}) {
                int[] a = {4, 10, 50};
                a[at] = v;
                Probe t = new Probe();
                t.is(0, "put", 0, a[0], a[1], a[2], NONE);
                t.does("cancel", 0).is(0, "every", 0, a[0], a[1], a[2], 1);
                t.does("tick", 1).is(1, "timer", 0, 5);
                for (int i = 0; i < 3; i++) {
                    t.is(a[i], "task", 0, 1 + i);
                    t.is(a[i], "task", 1, 1 + i);
                    t.is(a[i], "timer", 0, 1 + i);
                }
            }
        }
        s.refuses(-2, "put", 0, 0, 1, 1, 0);
        s.refuses(-2, "put", 0, 0, 1, 1, -2);
        s.is(0, "put", 0, 0, 1, 1, NONE);
        s.refuses(-2, "put", 0, 0, 1, 2, 1);
        s.is(1, "put", 0, 0, 1, 2, 0);
        s.none("task", 0, 4);
        s.is(0, "task", 1, 4);
        for (int key : new int[] {-1, 10000, LEAST, MOST}) {
            s.refuses(-2, "pardon", key);
            s.none("keyed", key);
            s.none("strikes", key);
        }
        for (int priority : new int[] {-1, 10, LEAST, MOST}) {
            s.refuses(-2, "raise", 0, priority);
        }
    }

    private static void stands() {
        term("A TASK WAITS (0), is HELD (1), RESTS (2), is OUT (3), DONE (4), ASIDE (5), GONE (6); of the first four it STANDS.");
        Probe s = Scenes.oneOfEach();
        for (int task = 0; task < Scenes.STATES.length; task++) {
            s.is(Scenes.STATES[task], "task", task, 6);
            boolean stands = Scenes.STATES[task] <= 3;
            int key = (int) s.peek("task", task, 3);
            s.is(stands ? task : NONE, "keyed", key);
            if (stands) {
                s.refuses(-5, "put", 4, 0, 1, key, NONE);
                int lane = (int) s.peek("task", task, 0);
                s.is(lane == 2 ? 2 : 1, "drain", lane);
                s.is(1, "lane", lane, 2);
                s.does("open", lane);
            } else {
                s.twin().is(8, "put", 4, 0, 1, key, NONE);
            }
        }
        s.is(4, "store", 9);
    }

    private static void comes() {
        term("HELD, if it has one BEHIND that is not DONE, else it WAITS");
        int[] want = {1, 1, 1, 1, 0};
        for (int before = 0; before < want.length; before++) {
            Probe s = Scenes.oneOfEach();
            s.is(8, "put", 4, 0, 1, 99, before);
            s.is(want[before], "task", 8, 6);
            s.is(before, "task", 8, 4);
        }
        Probe s = Scenes.oneOfEach();
        s.refuses(-2, "put", 4, 0, 1, 99, 5);
        s.refuses(-2, "put", 4, 0, 1, 99, 6);
        s.refuses(-3, "put", 4, 0, 1, 99, 7);
        s.is(8, "put", 4, 0, 1, 99, NONE);
        s.is(0, "task", 8, 6);
        term("CAME: TICK then");
        s.is(0, "task", 8, 5);
        s.does("tick", 99).does("tick", 1).does("put", 4, 0, 1, 98, NONE).is(100, "task", 9, 5);
    }

    private static void rank() {
        term("RANK of a TASK: PRIORITY times AGE, less CAME.");
        Probe s = new Probe();
        s.does("put", 0, 0, 1, 1, NONE).does("put", 0, 9, 1, 2, NONE).does("tick", 99);
        s.does("put", 0, 0, 1, 3, NONE).does("put", 0, 9, 1, 4, NONE);
        for (int age : new int[] {1, 8, 99}) {
            s.does("rule", 0, age);
            s.is(0, "rank", 0);
            s.is(9 * age, "rank", 1);
            s.is(-99, "rank", 2);
            s.is(9 * age - 99, "rank", 3);
        }
    }

    private static void pass() {
        term("its PASS is the greater of its own and the least PASS of LANES that are LIVE (its own, if none is)");
        Probe s = new Probe();
        s.does("put", 0, 0, 2, 1, NONE).does("put", 1, 0, 3, 2, NONE);
        s.does("put", 0, 0, 2, 3, NONE).does("put", 1, 0, 3, 4, NONE);
        s.taken(0, 0);
        s.taken(1, 1);
        s.is(5040, "lane", 0, 3);
        s.is(7560, "lane", 1, 3);
        s.twin().does("put", 2, 0, 1, 5, NONE).is(5040, "lane", 2, 3);
        // Its own is greater; it is like; it is less.
        s.taken(2, 2);
        s.is(10080, "lane", 0, 3);
        s.does("put", 0, 0, 1, 5, NONE).is(10080, "lane", 0, 3);
        Probe t = s.twin();
        t.does("cancel", 4).does("put", 2, 0, 1, 6, NONE).is(7560, "lane", 2, 3);
        t.does("cancel", 5).does("put", 2, 0, 1, 7, NONE).is(7560, "lane", 2, 3);
        // None is LIVE: its own, though others have more.
        t.does("cancel", 6).does("cancel", 3).is(0, "store", 12);
        t.does("put", 3, 0, 1, 8, NONE).is(0, "lane", 3, 3);
        // A LANE that is LIVE is not lifted.
        s.does("cancel", 4).does("put", 3, 0, 20, 9, NONE).is(7560, "lane", 3, 3);
        s.is(3, "take", 4);
        s.does("put", 1, 0, 1, 10, NONE).is(15120, "lane", 1, 3);
        s.does("put", 3, 0, 1, 11, NONE).is(7560, "lane", 3, 3);
    }

    private static void passBesideALimit() {
        term("LANES in which some WAIT are LIVE.");
        // Lane 0 has its LIMIT OUT, and is LIVE all the same: of it the least PASS is.
        Probe s = new Probe();
        s.does("arrange", 0, 2, 1).does("put", 0, 0, 1, 1, NONE).does("put", 1, 0, 9, 2, NONE);
        s.does("put", 0, 0, 1, 3, NONE).does("put", 1, 0, 9, 4, NONE);
        s.taken(0, 0);
        s.taken(1, 1);
        s.is(2, "store", 12);
        s.is(22680 - 2520, "spread", 0);
        s.is(1, "spread", 1);
        s.is(0, "spread", 2);
        s.does("put", 2, 0, 1, 5, NONE).is(2520, "lane", 2, 3);
        // Alone LIVE, at its LIMIT.
        s.does("cancel", 3).does("cancel", 4).is(0, "spread", 0);
        s.is(0, "spread", 2);
        s.does("put", 3, 0, 1, 6, NONE).is(2520, "lane", 3, 3);
        // None WAITS there but one that is HELD: it is not LIVE.
        s.does("cancel", 2).does("cancel", 5).does("put", 0, 0, 1, 7, 0).is(0, "store", 12);
        s.none("spread", 0);
        s.does("put", 4, 0, 1, 8, NONE).is(0, "lane", 4, 3);
    }

    private static void theLane() {
        term("THE LANE is the one of the least PASS, of like ones the least number");
        Probe s = new Probe();
        for (int lane = 4; lane >= 0; lane--) {
            s.does("put", lane, 0, 1, lane, NONE);
        }
        for (int lane = 0; lane < 5; lane++) {
            s.is(4 - lane, "take", lane);
        }
        s = new Probe();
        s.does("arrange", 0, 0, 8).does("put", 0, 0, 1, 1, NONE).does("put", 0, 0, 1, 2, NONE);
        s.does("arrange", 1, 0, 9).does("put", 1, 0, 1, 3, NONE).does("put", 1, 0, 1, 4, NONE);
        s.is(0, "take", 0);
        s.is(2, "take", 1);
        // 315 and 280.
        s.is(3, "take", 2);
        s.is(1, "take", 3);
    }

    private static void limit() {
        term("and of which fewer are OUT than its LIMIT");
        for (int limit = 1; limit <= 5; limit++) {
            Probe s = new Probe();
            s.does("arrange", 0, 2, limit);
            for (int i = 0; i < 7; i++) {
                s.does("put", 0, 0, 1, i, NONE);
            }
            for (int i = 0; i < limit; i++) {
                s.taken(i, i);
            }
            s.changesNothing(NONE, "take", limit);
            s.is(limit, "arrange", 0, 2, limit + 1);
            s.is(limit, "take", limit);
            // Fewer than are OUT: nothing is thrown out, none is taken.
            if (limit > 1) {
                s.does("arrange", 0, 2, limit - 1).is(limit + 1, "lane", 0, 9);
                s.does("done", 0, 1).does("done", 1, 2);
                s.changesNothing(NONE, "take", 0);
                s.does("done", 2, 3).is(limit + 1, "take", 0);
            }
        }
        Probe s = new Probe();
        for (int i = 0; i < 6; i++) {
            s.does("put", 2, 0, 1, i, NONE);
        }
        for (int i = 0; i < 6; i++) {
            s.is(i, "take", i);
        }
        s.is(6, "lane", 2, 9);
    }

    private static void firstOfALane() {
        term("of the greatest RANK, of like ones of the least number");
        Probe s = new Probe();
        s.does("put", 0, 1, 1, 1, NONE).does("tick", 8);
        s.does("put", 0, 2, 1, 2, NONE).does("put", 0, 2, 1, 3, NONE);
        Probe less = s.twin();
        s.is(0, "take", 0);
        s.is(1, "take", 1);
        s.is(2, "take", 2);
        less.does("rule", 0, 9).is(1, "take", 0);
        less.does("rule", 0, 7).is(0, "take", 1);
    }

    private static void taking() {
        term("has a TOKEN (numbers, from 1 on)");
        Probe s = new Probe();
        s.is(0, "store", 11);
        s.changesNothing(NONE, "take", 0);
        s.does("put", 0, 0, 1, 1, NONE);
        s.refuses(-3, "done", 0, 0);
        s.is(0, "take", 0);
        s.is(1, "task", 0, 10);
        s.refuses(-3, "take", 0);
        s.is(1, "store", 11);
        s.refuses(-3, "done", 0, 0);
        s.refuses(-3, "done", 0, 2);
        s.is(0, "done", 0, 1);
        s.refuses(-3, "done", 0, 1);
        s.does("put", 0, 0, 1, 1, NONE);
        s.is(1, "take", 0);
        s.is(2, "task", 1, 10);
        term("To TAKE, for a WORKER who has none");
        s.does("put", 0, 0, 1, 2, NONE);
        s.refuses(-3, "take", 0);
        s.is(2, "take", 1);
    }

    private static void weights() {
        term("PASS of the LANE is 2520 times its SIZE by WEIGHT more");
        for (int weight = 1; weight <= 9; weight++) {
            for (int size : new int[] {1, 7, 19, 20}) {
                Probe s = new Probe();
                s.does("arrange", 1, 0, weight).does("put", 1, 0, size, 1, NONE).does("put", 1, 0, size, 2, NONE);
                s.taken(0, 0);
                s.is(2520 / weight * size, "lane", 1, 3);
                s.taken(1, 1);
                s.is(2520 / weight * size * 2, "lane", 1, 3);
            }
        }
    }

    private static void done() {
        term("those that come BEHIND it and are HELD WAIT, by numbers");
        Probe s = new Probe();
        s.does("put", 0, 0, 1, 0, NONE).does("put", 2, 0, 1, 1, 0).does("put", 1, 0, 1, 2, 1);
        s.does("put", 1, 0, 1, 3, 0).does("put", 0, 0, 1, 4, 0).does("cancel", 3);
        s.completed(0, 0);
        s.is(0, "task", 1, 6);
        s.is(1, "task", 2, 6);
        s.is(6, "task", 3, 6);
        s.is(0, "task", 4, 6);
        s.is(4, "log", 0, 2);
        s.is(1, "log", 1, 2);
        // None comes BEHIND it.
        s.does("cancel", 1);
        s.completed(0, 4);
        s.is(2, "log", 0, 1);
    }

    private static void failing() {
        term("by a CAUSE: TRIED (0 at first) is one more");
        Probe s = new Probe();
        s.does("put", 0, 0, 1, 0, NONE).is(0, "task", 0, 7);
        int token = s.taken(0, 0);
        for (int cause : new int[] {0, -1, 100, 101, LEAST, MOST}) {
            s.refuses(-2, "fail", 0, token, cause);
        }
        s.is(0, "task", 0, 7);
        s.twin().is(2, "fail", 0, token, 99);
        s.is(2, "fail", 0, token, 1);
        s.is(1, "task", 0, 7);
    }

    private static void behindIt() {
        term("by CAUSE 100 (it is ASIDE), 101 (GONE), by numbers; then all that come BEHIND these, HELD, by 100, by numbers, and so on.");
        Probe s = new Probe();
        s.does("rule", 3, 1).does("put", 0, 9, 1, 0, NONE).does("put", 1, 0, 1, 1, 0).does("put", 1, 0, 1, 2, 0);
        s.does("put", 2, 0, 1, 3, 2).does("put", 2, 0, 1, 4, 1).does("put", 3, 0, 1, 5, 4).does("put", 3, 0, 1, 6, 5);
        s.does("put", 4, 0, 1, 7, NONE);
        Probe gone = s.twin();
        s.is(5, "fail", 0, s.taken(0, 0), 17);
        for (int k = 0; k < 7; k++) {
            s.is(k, "aside", k);
            s.is(k == 0 ? 17 : 100, "cause", k, 0);
            s.is(1, "cause", k, NONE);
        }
        s.is(0, "task", 7, 6);
        gone.is(6, "cancel", 0);
        for (int k = 0; k < 6; k++) {
            gone.is(k + 1, "aside", k);
            gone.is(k < 2 ? 101 : 100, "cause", k + 1, 0);
        }
        gone.is(0, "cause", 0, NONE);
        term("(TRIED stays by that.)");
        Probe t = new Probe();
        t.does("put", 0, 9, 1, 0, NONE).does("put", 0, 8, 1, 1, NONE);
        t.completed(0, 0);
        t.does("put", 0, 0, 1, 2, 1);
        t.does("cancel", 1).is(0, "task", 2, 7);
        // As long a row as there may be: 48 stand, one behind the other, and all but one fall.
        term("and so on.");
        Probe row = new Probe();
        row.does("rule", 4, 48).does("arrange", 0, 1, 32).does("arrange", 1, 1, 32);
        for (int i = 0; i < 48; i++) {
            row.does("put", i / 32, 0, 1, i, i - 1);
        }
        row.is(48, "chain", 47, 1);
        row.is(47, "hangs", 0);
        row.is(0, "path", 47, 47);
        row.none("path", 47, 48);
        row.is(47, "cancel", 0);
        row.is(101, "cause", 1, 0);
        row.is(100, "cause", 47, 0);
        row.is(47, "aside", 46);
        row.is(0, "store", 9);
    }

    private static void strikes() {
        term("how often a TASK of it went ASIDE by failing itself");
        Probe s = new Probe();
        s.does("rule", 3, 2).does("rule", 2, 1).does("put", 0, 0, 1, 10, NONE).does("put", 0, 0, 1, 11, 0);
        s.failed(0, 0, 1);
        s.is(0, "strikes", 10);
        s.does("tick", 1);
        s.failed(0, 0, 1);
        s.is(1, "strikes", 10);
        s.is(5, "task", 1, 6);
        s.is(0, "strikes", 11);
        s.does("discard", 0).is(1, "strikes", 10);
        s.does("put", 0, 0, 1, 10, NONE).does("put", 0, 0, 1, 12, 2).does("cancel", 2);
        s.is(1, "strikes", 10);
        s.is(0, "strikes", 12);
        // By CAUSE 0, too.
        s.does("rule", 3, 1).does("put", 0, 0, 1, 13, NONE);
        s.taken(0, 4);
        s.does("tick", 10).is(1, "strikes", 13);
        term("a KEY is PARDONED (it has no STRIKES)");
        s.is(1, "pardon", 13);
        s.is(0, "strikes", 13);
        s.refuses(-3, "pardon", 13);
        s.refuses(-3, "pardon", 11);
    }

    private static void oneTick() {
        term("all that are OUT and END by then (no later than TICK) FAIL by CAUSE 0, by numbers");
        Probe s = new Probe();
        s.does("put", 0, 0, 1, 0, NONE).does("put", 0, 9, 1, 1, NONE).does("put", 0, 8, 1, 2, NONE);
        s.taken(0, 1);
        s.taken(1, 2);
        s.taken(2, 0);
        s.does("tick", 1).does("beat", 1, 2).does("tick", 8);
        s.is(3, "store", 4);
        s.does("tick", 1).is(1, "store", 4);
        s.is(1, "log", 0, 2);
        s.is(0, "log", 1, 2);
        s.is(0, "cause", 0, 0);
        s.is(3, "task", 2, 6);
        s.does("tick", 1).is(2, "task", 2, 6);
        term("then all that REST, DUE by then, WAIT, the least DUE first, of like ones by numbers");
        s.is(0, "store", 1);
        s.does("tick", 1).is(2, "store", 1);
        s.is(1, "log", 0, 2);
        s.is(0, "log", 1, 2);
        s.does("tick", 1).is(3, "store", 1);
        // One that FAILS at a TICK is not DUE at that one, though its REST is the least.
        Probe t = new Probe();
        t.does("rule", 1, 1).does("rule", 2, 1).does("put", 0, 0, 1, 0, NONE);
        t.taken(0, 0);
        t.does("tick", 1).is(2, "task", 0, 6);
        t.does("tick", 1).is(0, "task", 0, 6);
        term("then of each TIMER of which it is time, by numbers, a TASK comes as it tells, none BEHIND");
        Probe u = new Probe();
        u.does("every", 3, 1, 1, 7, 2).does("every", 2, 2, 2, 8, 1).does("every", 1, 3, 3, 9, 2);
        u.does("tick", 2).is(3, "store", 8);
        u.is(8, "task", 0, 3);
        u.is(7, "task", 1, 3);
        u.is(9, "task", 2, 3);
        u.none("task", 2, 4);
        u.is(2, "task", 2, 5);
    }

    private static void skipped() {
        term("or is SKIPPED (counted), if it can't be");
        // The LANE DRAINS; is CLOSED; has no ROOM; all has none; the KEY STANDS; is BANNED.
        for (int why = 0; why < 6; why++) {
            Probe s = new Probe();
            s.does("rule", 3, 1).does("put", 0, 0, 1, 50, NONE).does("every", 0, 0, 1, 51, 1);
            if (why == 0) {
                s.does("drain", 0);
            } else if (why == 1) {
                s.does("drain", 0).does("cancel", 0);
            } else if (why == 2) {
                s.does("arrange", 0, 1, 1);
            } else if (why == 3) {
                s.does("rule", 4, 1);
            } else if (why == 4) {
                s.does("put", 4, 0, 1, 51, NONE);
            } else {
                s.does("rule", 5, 1).does("put", 0, 9, 1, 51, NONE);
                s.failed(0, 1, 1);
            }
            int came = (int) s.peek("store", 8);
            s.does("tick", 3);
            s.is(0, "timer", 0, 5);
            s.is(3, "timer", 0, 6);
            s.is(4, "timer", 0, 7);
            s.is(came, "store", 8);
            s.is(0, "store", 10);
            if (why <= 1) {
                s.does("open", 0);
            } else if (why == 2) {
                s.does("arrange", 0, 1, 2);
            } else if (why == 3) {
                s.does("rule", 4, 2);
            } else if (why == 4) {
                s.does("cancel", 1);
            } else {
                s.does("pardon", 51);
            }
            s.does("tick", 1).is(1, "timer", 0, 5);
            s.is(3, "timer", 0, 6);
            s.is(came, "keyed", 51);
        }
    }

    /** A TIMER whose time is the TICK at which a LEASE ends: what FAILS, and what WAITS again, is ahead of it. */
    private static void timersAreLast() {
        term("then of each TIMER of which it is time, by numbers, a TASK comes as it tells, none BEHIND, or is SKIPPED (counted), if it can't be");
        // The KEY STANDS no more; RESTS yet; is BANNED just then. The LANE has ROOM just then; is CLOSED just then.
        boolean[] comes = {true, false, false, true, false};
        for (int how = 0; how < comes.length; how++) {
            Probe s = new Probe();
            s.does("rule", 3, how == 1 ? 2 : 1).does("put", 0, 0, 1, 7, NONE);
            s.does("every", how == 4 ? 0 : 1, 0, 1, how < 3 ? 7 : 8, 10).does("take", 0);
            if (how == 2) {
                s.does("rule", 5, 1);
            } else if (how == 3) {
                s.does("rule", 4, 1);
            } else if (how == 4) {
                s.does("drain", 0);
            }
            s.does("tick", 9).is(0, "timer", 0, 5);
            s.is(0, "timer", 0, 6);
            s.does("tick", 1).is(comes[how] ? 1 : 0, "timer", 0, 5);
            s.is(comes[how] ? 0 : 1, "timer", 0, 6);
            s.is(how == 4 ? 2 : 0, "lane", 0, 2);
            s.is(comes[how] ? 2 : 1, "store", 8);
            s.is(0, "store", 10);
        }
        // One place for two: the lesser number has it.
        Probe one = new Probe();
        one.does("rule", 4, 1).does("every", 3, 0, 1, 5, 2).does("every", 0, 9, 1, 6, 1).does("every", 1, 9, 1, 4, 2);
        one.does("tick", 1).does("cancel", 0).does("tick", 1).is(1, "timer", 0, 5);
        one.is(1, "timer", 1, 6);
        one.is(1, "timer", 2, 6);
        // What RESTED WAITS already: its LANE is LIVE, and lifts the TIMER's.
        Probe lifted = new Probe();
        lifted.does("put", 0, 0, 4, 1, NONE).does("every", 1, 0, 1, 2, 2);
        lifted.failed(0, 0, 1);
        lifted.does("tick", 2).is(10080, "lane", 1, 3);
        lifted.is(0, "log", 0, 1);
        lifted.is(5, "log", 1, 1);
    }

    private static void drained() {
        term("A DRAINING LANE in which none STANDS is CLOSED at once.");
        Probe empty = new Probe();
        empty.is(0, "drain", 2);
        empty.is(2, "lane", 2, 2);
        // The last one is DONE, GONE, moved, ASIDE by failing, by the end of its LEASE, behind another.
        for (int how = 0; how < 6; how++) {
            Probe s = new Probe();
            s.does("rule", 3, 1).does("put", 1, 9, 1, 1, NONE).does("put", 2, 0, 1, 2, how == 5 ? 0 : NONE);
            s.does("put", 2, 0, 1, 3, NONE).is(2, "drain", 2);
            s.does("cancel", 2).is(1, "lane", 2, 2);
            int first = s.taken(0, 0);
            int token = how == 5 ? first : s.taken(1, 1);
            s.is(1, "lane", 2, 2);
            s.refuses(-3, "put", 2, 0, 1, 9, NONE);
            if (how == 0) {
                s.does("done", 1, token);
            } else if (how == 1) {
                s.does("back", 1, token).is(1, "lane", 2, 2);
                s.does("cancel", 1);
            } else if (how == 2) {
                s.does("back", 1, token).does("move", 1, 3);
            } else if (how == 3) {
                s.does("fail", 1, token, 1);
            } else if (how == 4) {
                s.does("tick", 9).is(1, "lane", 2, 2);
                s.does("tick", 1);
            } else {
                s.does("fail", 0, token, 1);
            }
            s.is(2, "lane", 2, 2);
            s.is(0, "lane", 2, 5);
            s.refuses(-3, "drain", 2);
            s.is(0, "open", 2);
        }
        // One that RESTS, that is HELD keeps it open.
        Probe s = new Probe();
        s.does("put", 0, 0, 1, 1, NONE).does("put", 1, 0, 1, 2, 0).does("drain", 0).does("drain", 1);
        s.failed(0, 0, 1);
        s.is(1, "lane", 0, 2);
        s.is(1, "lane", 1, 2);
        s.does("tick", 2);
        s.completed(0, 0);
        s.is(2, "lane", 0, 2);
        s.is(1, "lane", 1, 2);
        // One that is OPEN, and empties, stays so.
        Probe open = new Probe();
        open.does("put", 0, 0, 1, 1, NONE).does("drain", 0).does("open", 0);
        open.completed(0, 0);
        open.is(0, "lane", 0, 2);
    }

    private static void timers() {
        term("TIMERS have numbers, from 0 on (12 in all)");
        Probe s = new Probe();
        for (int i = 0; i < 12; i++) {
            s.refuses(-2, "stop", i);
            s.none("timer", i, 0);
            s.is(i, "every", i % 5, 0, 1, i, 1 + i);
        }
        s.refuses(-6, "every", 0, 0, 1, 50, 1);
        s.none("timer", 12, 0);
        s.refuses(-2, "stop", 12);
        s.does("stop", 0).does("stop", 11);
        s.refuses(-6, "every", 0, 0, 1, 50, 1);
        term("a PERIOD (1 .. 99): it is time PERIOD behind its beginning, again PERIOD behind that, and so on, till it is stopped");
        Probe bad = new Probe();
        for (int period : new int[] {0, -1, 100, LEAST, MOST}) {
            bad.refuses(-2, "every", 0, 0, 1, 1, period);
        }
        for (int period : new int[] {1, 2, 98, 99}) {
            Probe t = new Probe();
            t.does("tick", 5).does("every", 0, 0, 1, 1, period).is(5 + period, "timer", 0, 7);
            for (int n = 1; n <= 3; n++) {
                if (period > 1) {
                    t.does("tick", period - 1).is(n - 1, "store", 8);
                }
                t.does("tick", 1).is(n, "store", 8);
                t.is(5 + period * (n + 1), "timer", 0, 7);
                t.does("cancel", n - 1);
            }
            t.is(3, "stop", 0);
            t.none("timer", 0, 7);
            t.does("tick", 99).is(3, "store", 8);
            t.is(3, "timer", 0, 5);
            t.is(0, "timer", 0, 6);
        }
    }

    private static void moved() {
        term("moved to another LANE that is OPEN and has ROOM (it comes there as it is; one that WAITS leaves its LANE, then comes to WAIT there)");
        Probe s = Scenes.oneOfEach();
        for (int task = 0; task < 3; task++) {
            s.refuses(-3, "move", task, (int) s.peek("task", task, 0));
            Probe t = s.twin();
            t.is(0, "move", task, 4);
            t.is(Scenes.STATES[task], "task", task, 6);
            t.is(1, "lane", 4, 5);
            t.is(task == 0 ? 1 : 0, "lane", 4, 4);
            t.does("arrange", 4, 1, 1);
            t.refuses(-4, "move", task == 0 ? 1 : 0, 4);
        }
        for (int task = 3; task < 8; task++) {
            s.refuses(-3, "move", task, 4);
        }
        s.does("drain", 4);
        s.refuses(-3, "move", 0, 4);
        // Alone LIVE, it leaves none LIVE: the PASS of the other LANE stays its own.
        Probe t = new Probe();
        t.does("put", 0, 0, 20, 1, NONE).does("put", 0, 0, 1, 2, NONE);
        t.taken(0, 0);
        t.is(50400, "lane", 0, 3);
        t.does("move", 1, 3).is(0, "lane", 3, 3);
        t.is(1, "store", 12);
    }

    private static void tried() {
        term("one that is ASIDE is tried again (TRIED 0; HELD or it WAITS as one that comes; CAME stays)");
        Probe s = new Probe();
        s.does("rule", 3, 1).does("put", 0, 0, 1, 1, NONE).does("put", 1, 0, 1, 2, 0).does("tick", 4);
        s.failed(0, 0, 1);
        s.does("tick", 1);
        s.refuses(-3, "again", 1);
        s.is(0, "again", 0);
        s.is(0, "task", 0, 7);
        s.is(0, "task", 0, 5);
        s.refuses(-3, "again", 0);
        s.is(1, "again", 1);
        s.refuses(-3, "again", 1);
        // As one that comes: its LANE is lifted.
        Probe t = new Probe();
        t.does("rule", 3, 1).does("put", 0, 0, 1, 1, NONE).does("put", 1, 0, 9, 2, NONE).does("put", 1, 0, 9, 3, NONE);
        t.failed(0, 0, 1);
        t.taken(1, 1);
        t.is(2520, "lane", 0, 3);
        t.is(0, "again", 0);
        t.is(22680, "lane", 0, 3);
    }

    private static void takenOn() {
        term("as if WORKERS without number TOOK on and on, now, none being DONE, LANES having no LIMIT");
        Probe s = new Probe();
        s.none("ahead", 0);
        s.does("rule", 4, 48).does("arrange", 0, 1, 32).does("arrange", 1, 1, 32).does("arrange", 0, 2, 1);
        for (int i = 0; i < 32; i++) {
            s.does("put", 0, 0, 1, i, NONE);
        }
        for (int i = 32; i < 48; i++) {
            s.does("put", 1, 0, 1, i, i == 47 ? 0 : NONE);
        }
        for (int k = 0; k < 30; k++) {
            s.is(k / 2 + k % 2 * 32, "ahead", k);
        }
        s.is(31, "ahead", 46);
        s.none("ahead", 47);
        s.none("ahead", 48);
        s.is(46, "turnOf", 31);
        s.none("turnOf", 47);
        // What is OUT is not TAKEN, and leaves no place: there is no LIMIT.
        s.taken(0, 0);
        s.is(32, "ahead", 0);
        s.is(1, "ahead", 1);
        s.none("ahead", 46);
    }

    private static void safe() {
        term("the least TICK, this or later, from which on none that comes then to its LANE anew, whatever its PRIORITY, would be taken ahead of it");
        for (int priority = 0; priority <= 9; priority++) {
            Probe s = new Probe();
            s.does("rule", 0, 3).does("tick", 5).does("put", 0, priority, 1, 1, NONE);
            int safe = 5 + (9 - priority) * 3;
            s.is(safe, "safe", 0);
            if (safe > 6) {
                s.does("tick", safe - 6).is(safe, "safe", 0);
            }
            if (safe > 5) {
                // A TICK sooner one of PRIORITY 9 is ahead.
                s.twin().does("put", 0, 9, 1, 2, NONE).is(1, "take", 0);
                s.does("tick", 1).is(safe, "safe", 0);
            }
            s.twin().does("put", 0, 9, 1, 2, NONE).is(0, "take", 0);
            s.does("tick", 1).is(safe + 1, "safe", 0);
        }
    }

    private static void finish() {
        term("FINISH by w WORKERS (1 .. 6)");
        Probe s = new Probe();
        for (int i = 0; i < 7; i++) {
            s.does("put", i % 5, 0, 10, i, NONE);
        }
        for (int w : new int[] {0, 7, -1, LEAST, MOST}) {
            for (int what = 0; what < 3; what++) {
                s.none("finish", w, what);
            }
            s.none("empties", 0, w);
        }
        int[] want = {70, 40, 30, 20, 20, 20};
        for (int w = 1; w <= 6; w++) {
            s.is(want[w - 1], "finish", w, 0);
        }
        term("as if all that are OUT were DONE now (by numbers)");
        Probe t = new Probe();
        t.does("put", 0, 0, 1, 0, NONE).does("put", 0, 9, 1, 1, NONE);
        t.does("put", 3, 0, 1, 2, 0).does("put", 2, 0, 1, 3, 1);
        t.taken(0, 1);
        t.taken(1, 0);
        t.is(2, "finish", 1, 0);
        t.is(2, "finish", 1, 1);
        t.is(1, "finish", 2, 0);
        t.is(3, "finish", 2, 1);
        term("each TASK being DONE SIZE TICKS behind that, none failing");
        Probe u = new Probe();
        u.does("rule", 1, 1).does("rule", 3, 1).does("put", 0, 0, 20, 1, NONE).is(20, "finish", 1, 0);
        u.does("put", 0, 0, 20, 2, 0).is(40, "finish", 6, 0);
        term("till none STANDS (no TIMER being there): in how many TICKS");
        u.does("every", 1, 0, 1, 9, 1).is(40, "finish", 6, 0);
        term("at one TICK those are DONE first, by numbers, then those that REST and are DUE WAIT, as above, then they TAKE");
        Probe v = new Probe();
        v.does("put", 0, 9, 3, 0, NONE).does("put", 0, 0, 2, 1, NONE).does("put", 1, 0, 5, 2, 1);
        v.failed(0, 0, 1);
        v.does("arrange", 0, 2, 1);
        // 1 (0-2); at 2 the LIMIT is free, 0 is DUE, 2 WAITS: 0 (2-5), 2 (2-7).
        v.is(7, "finish", 2, 0);
        v.is(2, "finish", 2, 1);
        v.is(5, "empties", 0, 2);
        v.is(2 + 2, "finish", 2, 2);
        // One: 1 (0-2), then of LANES 0 (pass 2520 times 5) and 1 (lifted to nothing: none was LIVE) the least.
        v.is(10, "finish", 1, 0);
    }

    /** As many as there may be: 48 STAND, of each LANE no more than 32. */
    private static Probe fortyEight(int size, int firstBehind) {
        Probe s = new Probe();
        s.does("rule", 4, 48).does("arrange", 0, 1, 32).does("arrange", 1, 1, 32);
        for (int i = 0; i < 48; i++) {
            s.does("put", i / 32, 0, size, i, i == 0 ? NONE : firstBehind);
        }
        return s;
    }

    private static void fullStoreOfHeld() {
        term("those that come BEHIND it and are HELD WAIT, by numbers");
        Probe s = fortyEight(1, 0);
        s.is(47, "store", 2);
        s.is(47, "hangs", 0);
        // 47 TICKS by one; six at a time: eight turns behind the first.
        s.is(48, "finish", 1, 0);
        s.is(9, "finish", 6, 0);
        Probe fails = s.twin();
        s.completed(0, 0);
        s.is(47, "store", 1);
        s.is(0, "store", 2);
        for (int k = 0; k < 47; k++) {
            s.is(47 - k, "log", k, 2);
            s.is(5, "log", k, 1);
        }
        s.is(2, "log", 47, 1);
        fails.does("rule", 3, 1);
        fails.taken(0, 0);
        fails.is(47 + 1, "lapse", 10, 1);
        fails.does("tick", 10).is(48, "store", 6);
        for (int k = 0; k < 48; k++) {
            fails.is(k, "aside", k);
        }
        fails.none("aside", 48);
        fails.is(47, "blamed", 100);
        fails.is(100, "worst");
    }

    private static void fullStoreOfResting() {
        term("then all that REST, DUE by then, WAIT, the least DUE first, of like ones by numbers");
        Probe s = fortyEight(1, NONE);
        for (int i = 0; i < 48; i++) {
            s.does("take", 0).does("fail", 0, i + 1, 1);
        }
        s.is(48, "store", 3);
        s.is(0, "lapse", 1, 2);
        s.is(48, "lapse", 2, 2);
        s.is(47, "resting", 47);
        s.none("resting", 48);
        s.is(2 + 48, "finish", 1, 0);
        s.is(2 + 8, "finish", 6, 0);
        s.is(2 * 6, "finish", 6, 2);
        s.refuses(-4, "put", 4, 0, 1, 900, NONE);
        s.does("tick", 2).is(48, "store", 1);
        s.is(0, "store", 3);
        for (int k = 0; k < 48; k++) {
            s.is(47 - k, "log", k, 2);
        }
        // The last of them, of PRIORITY 9 and SIZE 20, is TAKEN as soon as it is DUE.
        Probe t = fortyEight(1, NONE);
        t.does("cancel", 47).does("put", 1, 9, 20, 900, NONE);
        for (int i = 0; i < 48; i++) {
            t.does("take", 0).does("fail", 0, i + 1, 1);
        }
        t.is(2 + 20, "finish", 6, 0);
        t.is(48, "finish", 6, 1);
    }

    private static void fullStoreFinishes() {
        term("till none STANDS (no TIMER being there): in how many TICKS");
        // 48 of SIZE 2, of which 10 REST till 1, 3, .. 19: one WORKER has never none.
        Probe s = fortyEight(2, NONE);
        for (int i = 0; i < 10; i++) {
            s.does("rule", 2, 1 + 2 * i).does("take", 0).does("fail", 0, i + 1, 1);
        }
        s.is(96, "finish", 1, 0);
        s.is(0, "finish", 1, 2);
        s.is(48, "finish", 2, 0);
        s.is(1, "enough", 96);
        s.is(2, "enough", 95);
        int first = (int) s.peek("empties", 0, 1);
        int second = (int) s.peek("empties", 1, 1);
        Probe.due("the later of both lanes is the end", 96, Math.max(first, second));
        // One behind the other, each of the greatest SIZE: none is faster than one.
        Probe row = new Probe();
        row.does("rule", 4, 48).does("arrange", 0, 1, 32).does("arrange", 1, 1, 32);
        for (int i = 0; i < 48; i++) {
            row.does("put", i / 32, 0, 20, i, i - 1);
        }
        for (int w = 1; w <= 6; w++) {
            row.is(960, "finish", w, 0);
            row.is(47, "finish", w, 1);
            row.is(960 * (w - 1), "finish", w, 2);
            row.is(640, "empties", 0, w);
            row.is(960, "empties", 1, w);
        }
        row.is(1, "enough", 960);
        row.none("enough", 959);
        row.is(960, "chain", 47, 0);
    }

    /** All 48 REST, are DUE at TICKS of their own, and are DONE at others: nothing happens twice at one. */
    private static void finishByTheMostTurns() {
        term("at one TICK those are DONE first, by numbers, then those that REST and are DUE WAIT, as above, then they TAKE; till none STANDS");
        Probe s = new Probe();
        s.does("rule", 4, 48).does("rule", 3, 9).does("rule", 2, 1);
        for (int i = 0; i < 48; i++) {
            s.does("put", i % 5, 0, 1, i, NONE);
        }
        // Each FAILS thrice, so that the fourth time it RESTS longer than it takes the others to FAIL.
        int token = 0;
        for (int rest = 1; rest <= 4; rest *= 2) {
            for (int i = 0; i < 48; i++) {
                token++;
                s.does("take", 0).does("fail", 0, token, 1);
            }
            s.does("tick", rest);
        }
        s.does("rule", 2, 20);
        for (int i = 0; i < 48; i++) {
            if (i > 0) {
                s.does("tick", 2);
            }
            token++;
            s.does("take", 0).does("fail", 0, token, 1);
        }
        s.is(101, "store", 0);
        s.is(48, "store", 3);
        // Of SIZE 1, DUE at 167, 169, .. 261, the last one 47 in lane 2.
        s.is(167, "task", 0, 8);
        s.is(261, "task", 47, 8);
        s.is(161, "finish", 1, 0);
        s.is(47, "finish", 1, 1);
        s.is(161 - 48, "finish", 1, 2);
        s.is(161, "finish", 6, 0);
        s.is(47, "finish", 6, 1);
        s.is(6 * 161 - 48, "finish", 6, 2);
        int[] last = {45, 46, 47, 43, 44};
        for (int lane = 0; lane < 5; lane++) {
            s.is(161 - 2 * (47 - last[lane]), "empties", lane, 1);
        }
        s.is(1, "enough", 161);
        s.none("enough", 160);
    }

    private static void hangs() {
        term("HANGS on a TASK what comes BEHIND it and STANDS or is ASIDE, and what hangs on that.");
        Probe s = Scenes.oneOfEach();
        int[] want = {1, 0, 0, 0, 0, 0, 1, 0};
        for (int task = 0; task < want.length; task++) {
            s.is(want[task], "hangs", task);
        }
        s.does("put", 0, 0, 1, 90, 1).is(2, "hangs", 0);
        s.does("put", 0, 0, 1, 91, 4).is(1, "hangs", 4);
        s.does("cancel", 8).is(1, "hangs", 0);
        s.does("discard", 7).is(0, "hangs", 6);
    }

    private static void log() {
        term("THE LOG: the latest 64 lines");
        Probe s = new Probe();
        s.is(-2, "log", 0, 0);
        for (int n = 1; n <= 130; n++) {
            if (n == 1) {
                s.does("put", 0, 0, 1, 1, NONE);
            } else {
                s.does("tick", 1).does("move", 0, (n + 1) % 2);
            }
            if (n == 1 || n == 63 || n == 64 || n == 65 || n == 128 || n == 129) {
                s.is(n - 1, "log", 0, 0);
                s.is(Math.max(0, n - 64), "log", Math.min(n, 64) - 1, 0);
                s.is(-2, "log", Math.min(n, 64), 0);
                s.is(-2, "log", -1, 0);
            }
        }
        term("(By one that FAILS at last 3, then 4.)");
        Probe t = new Probe();
        t.does("rule", 3, 2).does("rule", 2, 1).does("put", 0, 0, 1, 1, NONE);
        t.failed(3, 0, 8);
        t.is(3, "log", 0, 1);
        t.does("tick", 1);
        t.failed(2, 0, 9);
        t.is(4, "log", 0, 1);
        t.is(NONE, "log", 0, 4);
        t.is(9, "log", 0, 5);
        t.is(3, "log", 1, 1);
        t.is(2, "log", 1, 4);
        t.is(9, "log", 1, 5);
    }

    private static void steps() {
        term("STEPS by a seed (x, 0 or more)");
        Probe s = new Probe();
        s.refuses(-2, "steps", -1, 1);
        s.refuses(-2, "steps", LEAST, 1);
        s.twin().does("steps", 0, 1).is(1, "store", 8);
        s.twin().does("steps", MOST, 60);
        term("x becomes (1103515245 x + 12345) mod 2 to the 31; floor(x / 64) mod m");
        // Of 2147483647 x becomes 1043980748; floor of that by 64 is 16312199: a PRIORITY, of a TASK that is not there.
        Probe t = new Probe();
        t.changesNothing(0, "steps", MOST, 1);
        // Of 0 it becomes 12345, 192: a TASK comes. The next draws, by the same rule: LANE, PRIORITY, SIZE less 1, KEY.
        long x = 12345;
        int[] of = {5, 10, 20, 10000};
        int[] got = new int[of.length];
        for (int i = 0; i < of.length; i++) {
            x = BigInteger.valueOf(1103515245L).multiply(BigInteger.valueOf(x)).add(BigInteger.valueOf(12345))
                .mod(BigInteger.TWO.pow(31)).longValueExact();
            got[i] = (int) (x / 64 % of[i]);
        }
        t.is(1, "steps", 0, 1);
        for (int what = 0; what < of.length; what++) {
            t.is(got[what] + (what == 2 ? 1 : 0), "task", 0, what);
        }
        term("What can't be, is not.");
        t.is(0, "store", 10);
    }

    private static void everyCallAtItsFarthest() {
        term("what can't be, answers below NONE, changes nothing, and is counted");
        Probe s = Scenes.oneOfEach();
        s.does("every", 0, 0, 1, 70, 9);
        int token = (int) s.peek("worker", 3, 1);
        Object[][] calls = {
            {"put", new int[] {4, 5, 5, 99, NONE}}, {"take", new int[] {0}}, {"done", new int[] {3, token}},
            {"fail", new int[] {3, token, 5}}, {"beat", new int[] {3, token}}, {"back", new int[] {3, token}},
            {"hand", new int[] {3, token, 5}}, {"every", new int[] {0, 0, 1, 71, 9}}, {"stop", new int[] {0}},
            {"tick", new int[] {1}}, {"drain", new int[] {4}}, {"open", new int[] {4}}, {"cancel", new int[] {0}},
            {"move", new int[] {0, 4}}, {"raise", new int[] {0, 5}}, {"again", new int[] {7}},
            {"discard", new int[] {7}}, {"arrange", new int[] {0, 0, 1}}, {"rule", new int[] {0, 1}},
            {"pardon", new int[] {10}}, {"steps", new int[] {1, 1}}};
        for (Object[] c : calls) {
            int[] good = (int[]) c[1];
            for (int at = 0; at < good.length; at++) {
                for (int v : new int[] {LEAST, LEAST + 1, -65536, 65536, 1 << 30, MOST - 1, MOST}) {
                    int[] a = good.clone();
                    a[at] = v;
                    boolean isToken = good.length > 1 && at == 1 && good[0] == 3;
                    boolean isSeed = c[0].equals("steps") && at == 0 && v >= 0;
                    if (!isSeed) {
                        s.refuses(isToken ? -3 : -2, (String) c[0], a);
                    }
                }
            }
        }
    }
}
