/**
 * The sentences of the document on how the server stops, sector by sector, and begins anew, one by one, and promises 8
 * to 17 at their boundaries.
 */
public final class EdgeStopTest {
    private static final int NONE = Ops.NONE, WAITING = Ops.WAITING;
    private static final int NO_AVAIL = Ops.NO_AVAIL, DONE = Ops.DONE, AGAIN = Ops.AGAIN, TORN = Ops.TORN;
    private static final int ROOT = Scene.ROOT, FILE = Scene.FILE, DIR = Scene.DIR, INNER = Scene.INNER, FREE = Scene.FREE;
    private static final Check check = new Check();

    private interface OnScene {
        void test(Scene s, SlotServer x);
    }

    public static void main(String[] args) {
        sectors();
        theNextCallThatItDoes();
        toldBefore();
        nothingWasDone();
        takesNoDatagrams();
        asItWasWrittenDown();
        askedWhenItDoesNotRun();
        boots();
        times();
        nodes();
        handles();
        locksAndLeases();
        wrong();
        check.end();
    }

    private static void edge(String words, OnScene test) {
        check.sentence(words, () -> {
            Scene s = new Scene(check);
            test.test(s, s.x);
        });
    }

    private static int[] s(int... step) {
        return step;
    }

    /** A call of client 0 in slot 2 that makes so many files, and was not carried yet. */
    private static int making(Scene s, int files) {
        for (int i = 0; i < files; i++) {
            s.x.step(0, 2, Ops.MAKE, ROOT, 0, 21 + i, 0);
        }
        return s.x.send(0, 2);
    }

    private static void sectors() {
        for (int steps = 1; steps <= 4; steps++) {
            int n = steps;
            for (int told = 0; told <= n; told++) {
                int few = told;
                edge("stops it after so many sectors as are told: " + few + " of " + (n + 1), (s, x) -> torn(s, n, few));
            }
            edge("if these are all, behind them: " + (n + 1), (s, x) -> whole(s, n, n + 1));
            for (int many : new int[] {n + 2, 6, Ops.MAX}) {
                edge("if more are told than there are, behind them: " + many, (s, x) -> whole(s, n, many));
            }
        }
        edge("one more for each step that was done: two of four", (s, x) -> refusedAtTheSecond(s, 2, TORN));
        edge("one more for each step that was done: three sectors are all", (s, x) -> refusedAtTheSecond(s, 3, DONE));
        edge("one more for each step: one that is refused is done, too", (s, x) -> {
            int d = s.bench.sent(0, 2, s(Ops.READ, DIR, 0));
            x.stop(1);
            check.due("carry", x.carry(d, false), TORN);
            x.boot();
            x.stop(2);
            check.due("carry", x.carry(d, false), DONE);
            check.due("runs", x.runs(), false);
        });
    }

    private static void torn(Scene s, int steps, int told) {
        SlotServer x = s.x;
        int d = making(s, steps);
        x.stop(told);
        check.due("runs before", x.runs(), true);
        check.due("carry", x.carry(d, false), TORN);
        check.due("runs", x.runs(), false);
        check.due("nodes", x.nodes(), 5);
        check.due("no answer", x.code(0, 2, 0), WAITING);
        x.boot();
        check.due("nodes anew", x.nodes(), 5);
        check.due("carry anew", x.carry(d, false), DONE);
        check.due("runs on", x.runs(), true);
        check.due("nodes then", x.nodes(), 5 + steps);
    }

    private static void whole(Scene s, int steps, int told) {
        SlotServer x = s.x;
        int d = making(s, steps);
        x.stop(told);
        check.due("carry", x.carry(d, false), DONE);
        check.due("runs", x.runs(), false);
        check.due("before its answer leaves", x.code(0, 2, 0), WAITING);
        check.due("nodes", x.nodes(), 5 + steps);
        x.boot();
        check.due("still no answer", x.code(0, 2, 0), WAITING);
        check.due("carry anew", x.carry(d, false), AGAIN);
        check.due("the answer", x.value(0, 2, steps - 1), 4 + steps);
        check.due("runs on", x.runs(), true);
        check.due("nodes then", x.nodes(), 5 + steps);
    }

    private static void refusedAtTheSecond(Scene s, int told, int due) {
        int d = s.bench.sent(0, 2, s(Ops.ROOT, 7), s(Ops.WALK, ROOT, 7, 99), s(Ops.ROOT, 7), s(Ops.ROOT, 7));
        s.x.stop(told);
        check.due("carry", s.x.carry(d, false), due);
        check.due("handle", s.x.handle(0, 7), due == DONE ? 0 : NONE);
    }

    private static void theNextCallThatItDoes() {
        edge("in the next call that it does: not one that is answered again", (s, x) -> {
            int d = making(s, 1);
            x.carry(d, true);
            x.stop(0);
            check.due("again", x.carry(d, false), AGAIN);
            check.due("its answer leaves", x.code(0, 2, 0), Ops.OK);
            check.due("runs", x.runs(), true);
            check.due("the next", x.carry(making(s, 1), false), TORN);
        });
        edge("in the next call that it does: not one of no avail", (s, x) -> {
            x.stop(0);
            check.due("no avail", x.carry(0, false), NO_AVAIL);
            check.due("runs", x.runs(), true);
            check.due("another client's", s.bench.done(3, 2, s(Ops.ROOT)), TORN);
        });
        edge("in the next call that it does: not when time goes on", (s, x) -> {
            x.stop(0);
            x.time(100000);
            x.start(1);
            check.due("runs", x.runs(), true);
            check.due("the next", x.carry(making(s, 1), false), TORN);
        });
        edge("in the next call: in none behind it", (s, x) -> {
            int d = making(s, 1);
            x.stop(0);
            x.carry(d, false);
            x.boot();
            check.due("carry", x.carry(d, false), DONE);
            check.due("runs", x.runs(), true);
        });
        edge("a lost answer changes nothing of it", (s, x) -> {
            int d = making(s, 1);
            x.stop(1);
            check.due("carry", x.carry(d, true), TORN);
            x.boot();
            x.stop(2);
            check.due("carry", x.carry(d, true), DONE);
            check.due("runs", x.runs(), false);
        });
    }

    private static void toldBefore() {
        edge("stop: at once if it is NONE", (s, x) -> {
            x.stop(NONE);
            check.due("runs", x.runs(), false);
        });
        edge("What was told before counts no more: fewer, then more", (s, x) -> {
            x.stop(0);
            x.stop(2);
            check.due("carry", x.carry(making(s, 1), false), DONE);
            check.due("runs", x.runs(), false);
        });
        edge("What was told before counts no more: more, then fewer", (s, x) -> {
            x.stop(2);
            x.stop(1);
            check.due("carry", x.carry(making(s, 1), false), TORN);
        });
        edge("What was told before counts no more: at once", (s, x) -> {
            x.stop(0);
            x.stop(NONE);
            x.boot();
            check.due("carry", x.carry(making(s, 1), false), DONE);
            check.due("runs", x.runs(), true);
        });
        for (int sectors : new int[] {0, 1, Ops.MAX, NONE}) {
            edge("nothing happens to one that does not run: " + sectors, (s, x) -> {
                x.stop(NONE);
                x.stop(sectors);
                check.due("runs", x.runs(), false);
                x.boot();
                check.due("carry", x.carry(making(s, 1), false), DONE);
                check.due("runs on", x.runs(), true);
            });
        }
        for (int wrong : new int[] {-2, Ops.MIN}) {
            edge("stop: illegal argument: sectors is less than -1", (s, x) -> {
                check.illegalArgument("runs", () -> x.stop(wrong));
                check.due("runs", x.runs(), true);
                check.due("nothing was told", x.carry(making(s, 1), false), DONE);
                check.due("runs on", x.runs(), true);
                x.stop(0);
                check.illegalArgument("told", () -> x.stop(wrong));
                check.due("what was told stays", x.carry(making(s, 1), false), TORN);
                check.illegalArgument("does not run", () -> x.stop(wrong));
            });
        }
    }

    private static void nothingWasDone() {
        int[][][] calls = {
            {s(Ops.WRITE, FILE, 0, 7), s(Ops.WRITE, FREE, 0, 8), s(Ops.SIZE, FILE, 9), s(Ops.SIZE, FREE, 64)},
            {s(Ops.MAKE, ROOT, 0, 21), s(Ops.MOVE, ROOT, INNER, 11, 31), s(Ops.WALK, INNER, 7, 31), s(Ops.ROOT, FREE)},
            {s(Ops.REMOVE, INNER, 0, 14), s(Ops.REMOVE, DIR, 0, 13), s(Ops.REMOVE, ROOT, 0, 12), s(Ops.REMOVE, ROOT, 0, 11)},
            {s(Ops.LOCK, FILE, 0, 3, 1), s(Ops.UNLOCK, FILE, 1, 1), s(Ops.LOCK, FILE, 63, 63, 2), s(Ops.RENEW, 0)},
        };
        for (int i = 0; i < calls.length; i++) {
            int[][] call = calls[i];
            for (int told : new int[] {0, 1, 4}) {
                edge("If it stops before all are written, nothing of the call was done: " + i, (s, x) -> asWithoutIt(s, call, told));
            }
        }
        edge("nothing of a claim was done", (s, x) -> {
            s.restarted();
            int d = s.bench.sent(0, 2, s(Ops.CLAIM, FILE, 0, 0, 2), s(Ops.CLAIM, FILE, 1, 1, 1));
            x.stop(2);
            check.due("carry", x.carry(d, false), TORN);
            x.boot();
            check.due("former alone", x.lock(0, 1, 0), Ops.FORMER_ALONE);
            check.due("former shared", x.lock(0, 1, 1), Ops.FORMER_SHARED);
            check.due("carry", x.carry(d, false), DONE);
            check.due("claimed", x.code(0, 2, 1), Ops.OK);
        });
        edge("nothing of the call and of a new life that came with it was done", (s, x) -> {
            int old = making(s, 1);
            x.carry(old, false);
            x.start(0);
            int next = s.bench.sent(0, 2, s(Ops.ROOT, 7));
            x.stop(1);
            check.due("carry", x.carry(next, false), TORN);
            check.due("handle", x.handle(0, FILE), 1);
            x.boot();
            check.due("handle anew", x.handle(0, FILE), 1);
            check.due("lock", x.lock(0, 1, 0), Ops.FORMER_ALONE);
            check.due("the old life is the one that is known", x.carry(old, false), AGAIN);
            check.due("then the new one", x.carry(next, false), DONE);
            check.due("is known", x.carry(old, false), NO_AVAIL);
            check.due("and took its handles", x.handle(0, FILE), NONE);
        });
        edge("a new life that came with a call that was written is known", (s, x) -> {
            int old = making(s, 1);
            x.carry(old, false);
            x.start(0);
            int next = s.bench.sent(0, 2, s(Ops.ROOT, 7));
            x.stop(2);
            check.due("carry", x.carry(next, false), DONE);
            x.boot();
            check.due("the old one", x.carry(old, false), NO_AVAIL);
            check.due("handle", x.handle(0, FILE), NONE);
            check.due("lock", x.lock(0, 1, 0), 0);
            check.due("again", x.carry(next, false), AGAIN);
        });
    }

    private static void asWithoutIt(Scene s, int[][] call, int told) {
        int d = s.bench.sent(0, 2, call);
        s.x.stop(told);
        check.due("carry", s.x.carry(d, false), TORN);
        Scene without = new Scene(check);
        without.x.stop(NONE);
        check.same("when it does not run", s.face(), without.face());
        s.x.boot();
        without.x.boot();
        check.same("when it begins anew", s.picture(), without.picture());
    }

    private static void takesNoDatagrams() {
        edge("A server that stopped takes no datagrams", (s, x) -> {
            int d = making(s, 1);
            x.start(1);
            int ofANewLife = s.bench.sent(1, 0, s(Ops.ROOT, 7));
            x.stop(NONE);
            check.due("carry", x.carry(d, false), NO_AVAIL);
            check.due("of a new life", x.carry(ofANewLife, false), NO_AVAIL);
            check.due("nodes", x.nodes(), 5);
            check.due("handle", x.handle(1, FILE), 1);
            x.boot();
            check.due("nodes anew", x.nodes(), 5);
            check.due("handle anew", x.handle(1, FILE), 1);
            check.due("carry anew", x.carry(d, false), DONE);
        });
    }

    private static void asItWasWrittenDown() {
        edge("all is as it was written down: nodes and handles", (s, x) -> {
            String[] before = s.face().split(" ");
            s.restarted();
            String[] after = s.face().split(" ");
            for (int i = 1; i < 9; i++) {
                check.same("part " + i, after[i], before[i]);
            }
            int[] due = {0, 1, 2, NONE, NONE, 3, 4, NONE};
            for (int h = 0; h < 8; h++) {
                check.due("handle " + h, x.handle(0, h), due[h]);
            }
            s.refused(Ops.STALE, Ops.READ, Scene.GONE, 0);
        });
        edge("all is as it was written down: bytes", (s, x) -> {
            s.with(Ops.WRITE, FREE, 63, 255).restarted();
            s.valued(100, Ops.READ, FILE, 0);
            s.valued(109, Ops.READ, FILE, 9);
            s.valued(255, Ops.READ, FREE, 63);
            s.valued(0, Ops.READ, FREE, 62);
        });
        edge("all is as it was written down: lives", (s, x) -> {
            int old = making(s, 1);
            x.start(0);
            s.bench.done(0, 0, s(Ops.ROOT));
            s.restarted();
            check.due("the old one", x.carry(old, false), NO_AVAIL);
            check.due("the next call", s.bench.done(0, 0, s(Ops.ROOT)), DONE);
        });
        edge("all is as it was written down: calls and answers", (s, x) -> {
            int d = s.bench.sent(0, 2, s(Ops.MAKE, ROOT, 0, 21), s(Ops.READ, FILE, 9), s(Ops.READ, FILE, 6));
            x.carry(d, true);
            s.restarted().x.time(30000);
            s.bench.done(1, 1, s(Ops.SIZE, FILE, 0));
            check.due("carry", x.carry(d, false), AGAIN);
            int[] codes = {Ops.OK, Ops.OK, Ops.LOCKED, NONE};
            int[] values = {5, 109, 0, NONE};
            for (int i = 0; i < 4; i++) {
                check.due("code " + i, x.code(0, 2, i), codes[i]);
                check.due("value " + i, x.value(0, 2, i), values[i]);
            }
            check.due("nodes", x.nodes(), 6);
            check.due("the next call", s.bench.done(0, 2, s(Ops.ROOT)), DONE);
            check.due("the one before it", x.carry(d, false), NO_AVAIL);
        });
        for (int i = 0; i < 12; i++) {
            int at = i;
            check.sentence("all is as it was written down: the answer before a call that was not, slot " + at, () -> answerStays(at));
        }
        edge("what clients know is not the server's: it outlives a stop", (s, x) -> {
            s.bench.done(0, 1, s(Ops.READ, FILE, 9));
            x.step(0, 2, Ops.ROOT, 7, 0, 0, 0);
            s.restarted();
            check.due("an answer", x.value(0, 1, 0), 109);
            check.due("a call that is being built", x.step(0, 2, Ops.ROOT, 7, 0, 0, 0), 2);
            check.due("a life", x.start(1), 2);
        });
    }

    /** No client takes that answer any more, since it sent the next call: so the server itself is asked for it. */
    private static void answerStays(int at) {
        SlotServer.Server server = new SlotServer.Server();
        SlotServer.Post post = new SlotServer.Post();
        SlotServer.Desk desk = new SlotServer.Desk();
        desk.addStep(Ops.ROOT, 0, 0, 0, 0);
        desk.addStep(Ops.MAKE, 0, 0, 9, 0);
        desk.open();
        check.due("the first", server.write(post, post.put(at / 3, at % 3, 1, desk)), DONE);
        desk.take(new SlotServer.Answer());
        desk.addStep(Ops.ROOT, 8, 0, 0, 0);
        desk.open();
        server.told = 0;
        check.due("the second", server.write(post, post.put(at / 3, at % 3, 1, desk)), TORN);
        server.beginAnew();
        check.due("the first again", server.fateOf(post, 0), AGAIN);
        check.due("its steps", server.disk.answers[at].done, 2);
        check.due("its first code", server.disk.answers[at].codes[0], Ops.OK);
        check.due("its second value", server.disk.answers[at].values[1], 1);
    }

    private static void askedWhenItDoesNotRun() {
        edge("runs: whether the server runs", (s, x) -> {
            check.due("at first", x.runs(), true);
            x.stop(NONE);
            check.due("stopped", x.runs(), false);
            x.boot();
            check.due("begun anew", x.runs(), true);
        });
        edge("as it was written down, if the server does not run: so for all that follow", (s, x) -> {
            x.stop(NONE);
            check.due("nodes", x.nodes(), 5);
            check.due("kind", x.node(FILE, 0), 0);
            check.due("directory", x.node(FILE, 1), 0);
            check.due("name", x.node(FILE, 2), 11);
            check.due("bytes", x.node(FILE, 3), 10);
            check.due("handle", x.handle(0, FREE), 4);
            check.due("a handle that is gone", x.handle(0, Scene.GONE), NONE);
        });
        edge("lock: 0 if the server does not run", (s, x) -> {
            x.stop(NONE);
            for (int place : new int[] {0, 1, 4, 6}) {
                check.due("lock " + place, x.lock(0, 1, place) + x.lock(1, 1, place), 0);
            }
            x.boot();
            x.stop(NONE);
            check.due("a former one", x.lock(0, 1, 0), 0);
        });
        edge("lease: 0 if the server does not run", (s, x) -> {
            check.due("before", x.lease(0), 30000);
            x.stop(NONE);
            check.due("lease", x.lease(0), 0);
            x.boot();
            check.due("anew", x.lease(0), 0);
        });
    }

    private static void boots() {
        edge("boot: illegal state: it runs", (s, x) -> {
            String before = s.picture();
            check.illegalState("boot", x::boot);
            check.same("nothing changed", s.picture(), before);
            s.accepted(Ops.LOCK, FREE, 0, 0, 1);
        });
        edge("boot: illegal state: it runs until the call in which it stops", (s, x) -> {
            x.stop(0);
            check.illegalState("boot", x::boot);
            check.due("what was told stays", x.carry(making(s, 1), false), TORN);
            check.throwsNothing("boot", x::boot);
            check.illegalState("boot twice", x::boot);
        });
    }

    private static void times() {
        edge("TIME is 0 at first", (s, x) -> check.due("time", new SlotServer().time(0), 0));
        edge("Time goes on: what it is", (s, x) -> {
            check.due("0", x.time(0), 0);
            check.due("1", x.time(1), 1);
            check.due("100000", x.time(100000), 100001);
        });
        for (int ms : new int[] {-1, 100001, Ops.MIN, Ops.MAX}) {
            edge("time: illegal argument: ms is not 0 .. 100000", (s, x) -> {
                check.illegalArgument("time " + ms, () -> x.time(ms));
                check.due("time", x.time(0), 0);
                check.due("lease", x.lease(0), 30000);
                x.stop(NONE);
                check.illegalArgument("when it does not run", () -> x.time(ms));
                check.due("time then", x.time(0), 0);
            });
        }
        edge("goes on when it is told, whether the server runs or not", (s, x) -> {
            x.time(5);
            x.stop(NONE);
            check.due("stopped", x.time(7), 12);
            x.boot();
            check.due("anew", x.time(0), 12);
            check.due("and on", x.time(1), 13);
        });
    }

    private static void nodes() {
        edge("nodes: from the root alone to 32", (s, x) -> {
            check.due("a new object", new SlotServer().nodes(), 1);
            s.fillTo(32);
            check.due("full", x.nodes(), 32);
        });
        edge("node: what = 0: 0 a file, 1 a directory, NONE if there is none", (s, x) -> {
            int[] due = {1, 0, 1, 1, 0, NONE};
            for (int node = 0; node < due.length; node++) {
                check.due("node " + node, x.node(node, 0), due[node]);
            }
            check.due("node 31", x.node(31, 0), NONE);
        });
        edge("node: 1: the directory that it is in (NONE: root, or none)", (s, x) -> {
            int[] due = {NONE, 0, 0, 2, 3, NONE};
            for (int node = 0; node < due.length; node++) {
                check.due("node " + node, x.node(node, 1), due[node]);
            }
        });
        edge("node: 2: its name (0: root, or none)", (s, x) -> {
            int[] due = {0, 11, 12, 13, 14, 0};
            for (int node = 0; node < due.length; node++) {
                check.due("node " + node, x.node(node, 2), due[node]);
            }
        });
        edge("node: 3: how many bytes it has (0: no file)", (s, x) -> {
            s.with(Ops.MAKE, ROOT, 0, 21).with(Ops.WALK, ROOT, 7, 21).with(Ops.SIZE, 7, 64);
            int[] due = {0, 10, 0, 0, 0, 64, 0};
            for (int node = 0; node < due.length; node++) {
                check.due("node " + node, x.node(node, 3), due[node]);
            }
            s.with(Ops.REMOVE, ROOT, 0, 21);
            check.due("gone", x.node(5, 3), 0);
            s.with(Ops.MAKE, ROOT, 1, 21);
            check.due("a directory in its stead", x.node(5, 3), 0);
        });
    }

    private static void handles() {
        edge("handle: the node that a handle is bound to; NONE for none, or one that is gone", (s, x) -> {
            int[] due = {0, 1, 2, NONE, NONE, 3, 4, NONE};
            for (int h = 0; h < 8; h++) {
                check.due("handle " + h, x.handle(0, h), due[h]);
            }
            check.due("another's", x.handle(1, DIR), NONE);
        });
        edge("handle: NONE for one that is gone, also when another has its number", (s, x) -> {
            s.valued(5, Ops.MAKE, ROOT, 0, 21);
            check.due("handle", x.handle(0, Scene.GONE), NONE);
        });
    }

    private static void locksAndLeases() {
        edge("lock: 0, SHARED 1, ALONE 2; with 4 more if it is former", (s, x) -> {
            check.due("alone", x.lock(0, 1, 0), 2);
            check.due("shared", x.lock(0, 1, 1), 1);
            check.due("none", x.lock(0, 1, 2), 0);
            s.restarted();
            check.due("former alone", x.lock(0, 1, 0), 6);
            check.due("former shared", x.lock(0, 1, 1), 5);
            check.due("none", x.lock(0, 1, 2), 0);
        });
        edge("lock: bytes 0 .. 63, nodes 0 .. 31, clients 0 .. 3", (s, x) -> {
            s.with(Ops.LOCK, FILE, 63, 63, 2);
            check.due("byte 63", x.lock(0, 1, 63), 2);
            check.due("a directory", x.lock(0, 0, 0), 0);
            check.due("node 31", x.lock(3, 31, 63), 0);
        });
        edge("lease: how much is left; 0 for none", (s, x) -> {
            check.due("client 0", x.lease(0), 30000);
            check.due("client 3", x.lease(3), 0);
            x.time(29999);
            check.due("the last of it", x.lease(0), 1);
            x.time(1);
            check.due("ended", x.lease(0), 0);
            x.time(1);
            check.due("long ended", x.lease(0), 0);
        });
    }

    private static void wrong() {
        edge("wrong: 0, always", (s, x) -> {
            check.due("at first", x.wrong(), 0);
            for (int told = 0; told < 6; told++) {
                x.stop(told);
                s.bench.done(told % 4, 2, s(Ops.ROOT, 7), s(Ops.LOCK, FILE, 0, 63, 1), s(Ops.RENEW, 0));
                x.stop(NONE);
                check.due("stopped", x.wrong(), 0);
                x.time(10000);
                x.boot();
                check.due("begun anew", x.wrong(), 0);
                x.start(told % 4);
            }
        });
    }
}
