/** Promises 8 (stop), 9 (boot), 11 (runs), 17 (wrong), and what 12 to 16 answer of a server that does not run. */
public final class StopTest {
    private static final int NO_AVAIL = 0, DONE = 1, AGAIN = 2, TORN = 3;
    private static final int NONE = SlotServer.NONE, WAITING = SlotServer.WAITING;
    private static final Check check = new Check();

    public static void main(String[] args) {
        stopAtOnce();
        everySector();
        sectorsOfARefusedCall();
        onlyCallsThatAreDoneCount();
        toldAnew();
        tornCallLeavesNothing();
        tornLifeLeavesNothing();
        tornLocks();
        wholeCallStays();
        answersOutliveAStop();
        check.end();
    }

    private static int[] s(int... step) {
        return step;
    }

    private static void stopAtOnce() {
        Bench bench = new Bench();
        SlotServer x = bench.x;
        check.due("runs", x.runs(), true);
        check.illegalState("boot while it runs", x::boot);
        check.illegalArgument("stop(-2)", () -> x.stop(-2));
        check.illegalArgument("stop(MIN)", () -> x.stop(Integer.MIN_VALUE));
        check.due("runs still", x.runs(), true);
        x.stop(NONE);
        check.due("stopped", x.runs(), false);
        check.illegalArgument("stop(-2) when it doesn't run", () -> x.stop(-2));
        x.stop(0);
        x.stop(NONE);
        x.boot();
        check.due("runs again", x.runs(), true);
        check.illegalState("boot again", x::boot);
        check.due("what was told while it didn't run counts for nothing", bench.done(0, 0, s(0)), DONE);
        check.due("runs on", x.runs(), true);
        check.due("wrong", x.wrong(), 0);
    }

    /** A call of n steps takes n + 1 sectors. */
    private static void everySector() {
        for (int steps = 1; steps <= 4; steps++) {
            for (int sectors : new int[] {0, 1, 2, 3, 4, 5, 6, 100, Integer.MAX_VALUE}) {
                stopInACall(steps, sectors);
            }
        }
    }

    private static void stopInACall(int steps, int sectors) {
        String what = steps + " steps, stop(" + sectors + "): ";
        Bench bench = new Bench();
        SlotServer x = bench.x;
        bench.done(0, 1, s(0, 0));
        for (int i = 1; i <= steps; i++) {
            x.step(0, 0, 2, 0, 0, i, 0);
        }
        int d = x.send(0, 0);
        x.stop(sectors);
        boolean whole = sectors >= steps + 1;
        check.due(what + "it runs until the call", x.runs(), true);
        check.due(what + "carry", x.carry(d, false), whole ? DONE : TORN);
        check.due(what + "stopped", x.runs(), false);
        check.due(what + "no answer leaves", x.code(0, 0, 0), WAITING);
        check.due(what + "as it was written down", x.nodes(), whole ? steps + 1 : 1);
        check.due(what + "no datagrams", x.carry(d, false), NO_AVAIL);
        x.boot();
        check.due(what + "as it was", x.nodes(), whole ? steps + 1 : 1);
        check.due(what + "carry", x.carry(d, false), whole ? AGAIN : DONE);
        check.due(what + "runs on", x.runs(), true);
        check.due(what + "answer", x.code(0, 0, steps - 1), SlotServer.OK);
        check.due(what + "its value", x.value(0, 0, steps - 1), steps);
        check.due(what + "once", x.nodes(), steps + 1);
        check.due(what + "wrong", x.wrong(), 0);
    }

    private static void sectorsOfARefusedCall() {
        for (int sectors = 0; sectors <= 4; sectors++) {
            Bench bench = new Bench();
            SlotServer x = bench.x;
            int d = bench.sent(0, 0, s(0), s(1, 0, 1, 7), s(0, 2), s(0, 3));
            x.stop(sectors);
            check.due("two of four steps, stop(" + sectors + ")", x.carry(d, false), sectors >= 3 ? DONE : TORN);
            check.due("handle 0", x.handle(0, 0), sectors >= 3 ? 0 : NONE);
        }
    }

    private static void onlyCallsThatAreDoneCount() {
        Bench bench = new Bench();
        SlotServer x = bench.x;
        int first = bench.sent(0, 0, s(0));
        x.carry(first, false);
        int second = bench.sent(0, 0, s(0, 1));
        x.carry(second, false);
        x.stop(0);
        check.due("of no avail", x.carry(first, false), NO_AVAIL);
        check.due("again", x.carry(second, false), AGAIN);
        check.due("runs still", x.runs(), true);
        x.time(5);
        check.due("the next that it does", bench.done(1, 0, s(0)), TORN);
        check.due("stopped", x.runs(), false);
    }

    private static void toldAnew() {
        Bench bench = new Bench();
        SlotServer x = bench.x;
        x.stop(0);
        x.stop(2);
        check.due("the last word counts", bench.done(0, 0, s(0)), DONE);
        check.due("stopped", x.runs(), false);
        x.boot();
        x.stop(0);
        check.illegalArgument("a wrong word", () -> x.stop(-2));
        x.stop(NONE);
        x.boot();
        check.due("stop at once takes it back", bench.done(0, 1, s(0)), DONE);
        check.due("runs", x.runs(), true);
        x.stop(5);
        check.illegalArgument("a wrong word", () -> x.stop(-2));
        check.due("a wrong word takes nothing back", bench.done(0, 2, s(0)), DONE);
        check.due("stopped", x.runs(), false);
    }

    private static void tornCallLeavesNothing() {
        Bench bench = new Bench();
        SlotServer x = bench.x;
        bench.openFile(0);
        bench.done(0, 1, s(6, 1, 2, 7), s(2, 0, 1, 8), s(1, 0, 2, 8));
        x.stop(4);
        int d = bench.sent(0, 0, s(6, 1, 9, 9), s(4, 0, 2, 5, 6), s(1, 2, 0, 6), s(3, 2, 0, 6));
        check.due("torn", x.carry(d, false), TORN);
        for (int round = 0; round < 2; round++) {
            check.due("nodes", x.nodes(), 3);
            check.due("bytes", x.node(1, 3), 3);
            check.due("where", x.node(1, 1), 0);
            check.due("name", x.node(1, 2), 5);
            check.due("handle 0", x.handle(0, 0), 0);
            check.due("handle 1", x.handle(0, 1), 1);
            if (round == 0) {
                x.boot();
            }
        }
        check.due("byte 2", bench.valueOf(0, 1, 5, 1, 2), 7);
        check.due("byte 9", bench.valueOf(0, 1, 5, 1, 9), -1);
        check.due("then done", x.carry(d, false), DONE);
        check.due("all of it", x.nodes(), 2);
        check.due("handle 0", x.handle(0, 0), NONE);
    }

    private static void tornLifeLeavesNothing() {
        Bench bench = new Bench();
        SlotServer x = bench.x;
        bench.openFile(0);
        int old = bench.sent(0, 1, s(10, 1, 0, 3, 2));
        x.carry(old, false);
        x.start(0);
        int fresh = bench.sent(0, 0, s(0, 7));
        x.stop(1);
        check.due("torn", x.carry(fresh, false), TORN);
        check.due("handle 1 as it was written down", x.handle(0, 1), 1);
        check.due("handle 7 too", x.handle(0, 7), NONE);
        x.boot();
        check.due("the locks were there", x.lock(0, 1, 3), 6);
        check.due("the old life is known still", x.carry(old, false), AGAIN);
        check.due("then the new one", x.carry(fresh, false), DONE);
        check.due("the old one is too old", x.carry(old, false), NO_AVAIL);
        check.due("former locks are gone", x.lock(0, 1, 3), 0);
        check.due("handle 7", x.handle(0, 7), 0);
        check.due("handle 1", x.handle(0, 1), NONE);
    }

    private static void tornLocks() {
        Bench bench = new Bench();
        SlotServer x = bench.x;
        bench.openFile(0);
        bench.openFile(1);
        bench.done(0, 1, s(10, 1, 0, 3, 2), s(10, 1, 8, 9, 1));
        x.stop(3);
        int d = bench.sent(0, 1, s(11, 1, 0, 1), s(11, 1, 8, 8), s(10, 1, 2, 2, 1), s(10, 1, 20, 20, 2));
        check.due("torn", x.carry(d, false), TORN);
        x.boot();
        int[] due = {6, 6, 6, 6, 0, 0, 0, 0, 5, 5};
        for (int i = 0; i < due.length; i++) {
            check.due("lock on " + i, x.lock(0, 1, i), due[i]);
        }
        check.due("never locked", x.lock(0, 1, 20), 0);
        x.stop(2);
        int claim = bench.sent(0, 0, s(13, 1, 0, 3, 2), s(13, 1, 8, 9, 1), s(11, 1, 9, 9));
        check.due("a torn claim", x.carry(claim, false), TORN);
        x.boot();
        check.due("former still", x.lock(0, 1, 0), 6);
        check.due("shared, too", x.lock(0, 1, 9), 5);
        check.due("so they can be claimed", x.carry(claim, false), DONE);
        check.due("a lock again", x.lock(0, 1, 0), 2);
        check.due("a shared one", x.lock(0, 1, 8), 1);
        check.due("one that was unlocked", x.lock(0, 1, 9), 0);
        check.due("the torn one was done in grace", x.carry(d, false), DONE);
        check.due("UNLOCK first", x.code(0, 1, 1), SlotServer.OK);
        check.due("then grace", x.code(0, 1, 2), SlotServer.GRACE);
        check.due("unlocked", x.lock(0, 1, 0), 0);
        check.due("the others stay", x.lock(0, 1, 3), 2);
    }

    private static void wholeCallStays() {
        Bench bench = new Bench();
        SlotServer x = bench.x;
        bench.openFile(0);
        bench.done(0, 1, s(10, 1, 0, 3, 2));
        x.time(29999);
        x.stop(3);
        int d = bench.sent(0, 1, s(11, 1, 0, 0), s(10, 1, 5, 5, 1));
        check.due("done", x.carry(d, false), DONE);
        check.due("stopped", x.runs(), false);
        x.time(77777);
        x.boot();
        check.due("unlocked", x.lock(0, 1, 0), 0);
        check.due("former alone", x.lock(0, 1, 1), 6);
        check.due("former shared", x.lock(0, 1, 5), 5);
        check.due("no lease", x.lease(0), 0);
        check.due("the answer comes now", x.carry(d, false), AGAIN);
        check.due("as before", x.code(0, 1, 1), SlotServer.OK);
        check.due("answered again is not done again: no lease", x.lease(0), 0);
        check.due("nor a lock", x.lock(0, 1, 5), 5);
    }

    private static void answersOutliveAStop() {
        Bench bench = new Bench();
        SlotServer x = bench.x;
        int[] sent = new int[4];
        for (int client = 0; client < 4; client++) {
            sent[client] = bench.sent(client, 2, s(0), s(2, 0, 0, client + 1), s(2, 0, 0, 1));
            x.carry(sent[client], true);
        }
        x.stop(NONE);
        check.due("nodes when it doesn't run", x.nodes(), 5);
        check.due("handles when it doesn't run", x.handle(3, 0), 0);
        check.due("node when it doesn't run", x.node(4, 2), 4);
        x.boot();
        for (int client = 0; client < 4; client++) {
            check.due("again", x.carry(sent[client], false), AGAIN);
            check.due("its value", x.value(client, 2, 1), client + 1);
            check.due("its refusal", x.code(client, 2, 2), SlotServer.EXISTS);
        }
        check.due("nodes", x.nodes(), 5);
        check.due("wrong", x.wrong(), 0);
    }
}
