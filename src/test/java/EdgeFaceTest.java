import java.util.function.Consumer;

/**
 * "Illegal argument: there is no such client, slot, node, datagram, or what else is told. A call that throws changes
 * nothing; of several exceptions the one named first is thrown.": for each method of the face, when the server runs,
 * when it was told to stop, and when it does not run.
 */
public final class EdgeFaceTest {
    private static final int MIN = Ops.MIN, MAX = Ops.MAX;
    private static final int[] NO_CLIENTS = {-1, 4, MIN, MAX};
    private static final int[] NO_SLOTS = {-1, 3, MIN, MAX};
    private static final int[] NO_OPS = {-1, 14, MIN, MAX};
    private static final int[] NO_NODES = {-1, 32, MIN, MAX};
    private static final int[] NO_HANDLES = {-1, 8, MIN, MAX};
    private static final int[] NO_PLACES = {-1, 64, MIN, MAX};
    private static final int[] NO_WHATS = {-1, 4, MIN, MAX};
    /** The datagram of the call in slot 1: those before it made the scene. */
    private static final int OPEN = 9;
    private static final Check check = new Check();

    /** A call that throws an illegal argument, for one wrong number. */
    private interface Wrong {
        void call(SlotServer x, int number);
    }

    public static void main(String[] args) {
        aNewObject();
        noSuchClient();
        noSuchSlot();
        whatElseIsTold();
        theEndsAreLegal();
        illegalStates();
        theFirstNamed();
        check.end();
    }

    private static void illegal(String words, int[] numbers, Wrong wrong) {
        for (int number : numbers) {
            changesNothing(words + " " + number, s -> { }, x -> check.illegalArgument("runs", () -> wrong.call(x, number)));
            changesNothing(words + " " + number + ", stopped", s -> s.x.stop(Ops.NONE),
                x -> check.illegalArgument("does not run", () -> wrong.call(x, number)));
        }
    }

    /** A call in slot 2 has a step, one in slot 1 is open, and a stop was told: all that a wrong call could change. */
    private static void changesNothing(String words, Consumer<Scene> before, Consumer<SlotServer> wrong) {
        check.sentence(words, () -> {
            Scene s = new Scene(check);
            check.due("the open call", s.bench.sent(0, 1, new int[] {Ops.ROOT, 7}), OPEN);
            s.x.step(0, 2, Ops.ROOT, 3, 0, 0, 0);
            s.x.stop(3);
            before.accept(s);
            boolean ran = s.x.runs();
            String face = s.face();
            wrong.accept(s.x);
            check.same("the face", s.face(), face);
            check.due("open still", s.x.code(0, 1, 0), Ops.WAITING);
            check.due("being built still", s.x.step(0, 2, Ops.ROOT, 4, 0, 0, 0), 2);
            check.due("the next datagram", s.x.send(0, 2), OPEN + 1);
            check.due("what was told", s.x.carry(OPEN + 1, false), ran ? Ops.DONE : Ops.NO_AVAIL);
            check.due("it stopped behind it", s.x.runs(), false);
            check.due("its first step", s.x.handle(0, 3), ran ? 0 : Ops.NONE);
            check.due("the next life", s.x.start(0), 2);
        });
    }

    private static void aNewObject() {
        check.sentence("A new object: the root alone", () -> {
            SlotServer x = new SlotServer();
            check.due("nodes", x.nodes(), 1);
            check.due("the root is a directory", x.node(0, 0), 1);
            for (int node = 1; node < 32; node++) {
                check.due("node " + node, x.node(node, 0), Ops.NONE);
            }
        });
        check.sentence("A new object: no handles", () -> {
            SlotServer x = new SlotServer();
            for (int i = 0; i < 32; i++) {
                check.due("handle " + i % 8, x.handle(i / 8, i % 8), Ops.NONE);
            }
        });
        check.sentence("A new object: the server runs", () -> {
            SlotServer x = new SlotServer();
            check.due("runs", x.runs(), true);
            check.illegalState("boot", x::boot);
        });
        check.sentence("A new object: no grace", () -> {
            Bench b = new Bench();
            b.openFile(0);
            check.due("LOCK", b.one(0, 0, Ops.LOCK, 1, 0, 63, 2), Ops.OK);
            check.due("CLAIM", b.one(0, 0, Ops.CLAIM, 1, 0, 63, 2), Ops.LOST);
        });
        check.sentence("A new object has nothing of another one", () -> {
            Scene other = new Scene(check);
            other.x.time(5);
            other.x.stop(Ops.NONE);
            SlotServer x = new SlotServer();
            check.due("nodes", x.nodes(), 1);
            check.due("time", x.time(0), 0);
            check.due("runs", x.runs(), true);
            check.due("life", x.start(0), 1);
            check.due("the other's life", other.x.start(0), 2);
        });
    }

    private static void noSuchClient() {
        illegal("start: no such client", NO_CLIENTS, (x, n) -> x.start(n));
        illegal("step: no such client", NO_CLIENTS, (x, n) -> x.step(n, 2, 0, 0, 0, 0, 0));
        illegal("send: no such client", NO_CLIENTS, (x, n) -> x.send(n, 2));
        illegal("code: no such client", NO_CLIENTS, (x, n) -> x.code(n, 0, 0));
        illegal("value: no such client", NO_CLIENTS, (x, n) -> x.value(n, 0, 0));
        illegal("handle: no such client", NO_CLIENTS, (x, n) -> x.handle(n, 0));
        illegal("lock: no such client", NO_CLIENTS, (x, n) -> x.lock(n, 1, 0));
        illegal("lease: no such client", NO_CLIENTS, (x, n) -> x.lease(n));
    }

    private static void noSuchSlot() {
        illegal("step: no such slot", NO_SLOTS, (x, n) -> x.step(0, n, 0, 0, 0, 0, 0));
        illegal("send: no such slot", NO_SLOTS, (x, n) -> x.send(0, n));
        illegal("code: no such slot", NO_SLOTS, (x, n) -> x.code(0, n, 0));
        illegal("value: no such slot", NO_SLOTS, (x, n) -> x.value(0, n, 0));
    }

    private static void whatElseIsTold() {
        illegal("step: op is not 0 .. 13", NO_OPS, (x, n) -> x.step(0, 2, n, 0, 0, 0, 0));
        illegal("carry: no such datagram", new int[] {-1, 300, MIN, MAX}, (x, n) -> x.carry(n, false));
        illegal("carry: the datagram that is sent next", new int[] {OPEN + 1}, (x, n) -> x.carry(n, true));
        illegal("stop: sectors is less than -1", new int[] {-2, MIN}, (x, n) -> x.stop(n));
        illegal("time: ms is not 0 .. 100000", new int[] {-1, 100001, MIN, MAX}, (x, n) -> x.time(n));
        illegal("node: no such node", NO_NODES, (x, n) -> x.node(n, 0));
        illegal("node: what is none of these", NO_WHATS, (x, n) -> x.node(0, n));
        illegal("node: what is none of these, of no node", NO_WHATS, (x, n) -> x.node(31, n));
        illegal("handle: h is not 0 .. 7", NO_HANDLES, (x, n) -> x.handle(0, n));
        illegal("lock: no such node", NO_NODES, (x, n) -> x.lock(0, n, 0));
        illegal("lock: byte is not 0 .. 63", NO_PLACES, (x, n) -> x.lock(0, 1, n));
    }

    private static void theEndsAreLegal() {
        for (int client : new int[] {0, 3}) {
            check.sentence("CLIENTS 0 .. 3: " + client, () -> {
                SlotServer x = new SlotServer();
                check.due("start", x.start(client), 1);
                check.due("code", x.code(client, 0, 0), Ops.NONE);
                check.due("value", x.value(client, 0, 0), Ops.NONE);
                check.due("handle", x.handle(client, 0), Ops.NONE);
                check.due("lock", x.lock(client, 0, 0), 0);
                check.due("lease", x.lease(client), 0);
            });
        }
        for (int slot : new int[] {0, 2}) {
            check.sentence("SLOTS 0 .. 2: " + slot, () -> {
                Bench b = new Bench();
                check.due("carry", b.done(3, slot, new int[] {Ops.ROOT, 7}), Ops.DONE);
                check.due("code", b.x.code(3, slot, 0), Ops.OK);
                check.due("value", b.x.value(3, slot, 0), 0);
            });
        }
        check.sentence("NODES 0 .. 31, bytes 0 .. 63, handles 0 .. 7, what 0 .. 3", () -> {
            SlotServer x = new SlotServer();
            check.due("node 0", x.node(0, 0), 1);
            check.due("node 31", x.node(31, 3), 0);
            check.due("byte 63 of 31", x.lock(3, 31, 63), 0);
            check.due("handle 7", x.handle(3, 7), Ops.NONE);
        });
        check.sentence("stop: any other number of sectors is legal", () -> {
            SlotServer x = new SlotServer();
            check.throwsNothing("0", () -> x.stop(0));
            check.throwsNothing("MAX", () -> x.stop(MAX));
            check.throwsNothing("-1", () -> x.stop(-1));
            check.due("runs", x.runs(), false);
        });
        check.sentence("the numbers of a step are any ints", () -> {
            Bench b = new Bench();
            for (int op = 0; op <= 13; op++) {
                check.due("op " + op, b.done(0, 0, new int[] {op, MIN, MIN, MIN, MIN}), Ops.DONE);
                check.due("code", b.x.code(0, 0, 0), Ops.BAD);
                check.due("op " + op, b.done(0, 0, new int[] {op, MAX, MAX, MAX, MAX}), Ops.DONE);
                check.due("code", b.x.code(0, 0, 0), Ops.BAD);
            }
        });
    }

    private static void illegalStates() {
        changesNothing("step: a call is open there", s -> { },
            x -> check.illegalState("step", () -> x.step(0, 1, Ops.ROOT, 5, 0, 0, 0)));
        changesNothing("send: none is being built there: open", s -> { }, x -> check.illegalState("send", () -> x.send(0, 1)));
        changesNothing("send: none is being built there: answered", s -> { }, x -> check.illegalState("send", () -> x.send(0, 0)));
        changesNothing("send: none is being built there: none", s -> { }, x -> check.illegalState("send", () -> x.send(3, 0)));
        changesNothing("boot: it runs", s -> { }, x -> check.illegalState("boot", x::boot));
        check.sentence("step: it has four: it has them still", () -> {
            Bench b = new Bench();
            for (int i = 0; i < 4; i++) {
                b.x.step(0, 0, Ops.ROOT, i, 0, 0, 0);
            }
            check.illegalState("a fifth", () -> b.x.step(0, 0, Ops.ROOT, 8, 0, 0, 0));
            check.due("carry", b.x.carry(b.x.send(0, 0), false), Ops.DONE);
            check.due("the fourth", b.x.code(0, 0, 3), Ops.OK);
            check.due("a first", b.x.step(0, 0, Ops.ROOT, 0, 0, 0, 0), 1);
        });
    }

    private static void theFirstNamed() {
        check.sentence("of several exceptions the one named first is thrown: step, never started", () -> {
            SlotServer x = new SlotServer();
            check.illegalArgument("no client", () -> x.step(4, 0, 0, 0, 0, 0, 0));
            check.illegalArgument("no slot", () -> x.step(0, 3, 0, 0, 0, 0, 0));
            check.illegalArgument("no op", () -> x.step(0, 0, 14, 0, 0, 0, 0));
            check.illegalState("none of these", () -> x.step(0, 0, 13, 0, 0, 0, 0));
        });
        check.sentence("of several exceptions the one named first is thrown: step, open", () -> {
            Bench b = new Bench();
            b.sent(0, 0, new int[] {Ops.ROOT});
            check.illegalArgument("no op", () -> b.x.step(0, 0, 14, 0, 0, 0, 0));
            check.illegalState("an op", () -> b.x.step(0, 0, 13, 0, 0, 0, 0));
        });
        check.sentence("of several exceptions the one named first is thrown: step, four", () -> {
            Bench b = new Bench();
            for (int i = 0; i < 4; i++) {
                b.x.step(0, 0, Ops.ROOT, i, 0, 0, 0);
            }
            check.illegalArgument("no op", () -> b.x.step(0, 0, -1, 0, 0, 0, 0));
            check.illegalState("an op", () -> b.x.step(0, 0, 0, 0, 0, 0, 0));
        });
        check.sentence("of several exceptions the one named first is thrown: send", () -> {
            SlotServer x = new SlotServer();
            check.illegalArgument("no client", () -> x.send(-1, 0));
            check.illegalArgument("no slot", () -> x.send(0, -1));
            check.illegalState("never started", () -> x.send(0, 0));
        });
    }
}
