/**
 * The sentences of the document on clients, lives, slots, calls, datagrams and answers, one by one, and promises 2 to 7
 * at their boundaries.
 */
public final class EdgeCallTest {
    private static final int NONE = Ops.NONE, WAITING = Ops.WAITING;
    private static final int NO_AVAIL = Ops.NO_AVAIL, DONE = Ops.DONE, AGAIN = Ops.AGAIN;
    private static final Check check = new Check();

    private interface OnBench {
        void test(Bench b, SlotServer x);
    }

    public static void main(String[] args) {
        lives();
        neverStarted();
        startsAgain();
        steps();
        datagrams();
        numbers();
        open();
        oldAndNewLives();
        whatANewLifeTakes();
        againAndDone();
        answers();
        takenByTheClient();
        codes();
        callsOfAnObject();
        check.end();
    }

    /** On an object whose four clients have started. */
    private static void edge(String words, OnBench test) {
        check.sentence(words, () -> {
            Bench b = new Bench();
            test.test(b, b.x);
        });
    }

    /** On a new object. */
    private static void fresh(String words, OnBench test) {
        check.sentence(words, () -> test.test(null, new SlotServer()));
    }

    private static int[] s(int... step) {
        return step;
    }

    private static void noCall(SlotServer x, int client, int slot) {
        check.due("code", x.code(client, slot, 0), NONE);
        check.due("value", x.value(client, slot, 0), NONE);
        check.illegalState("send", () -> x.send(client, slot));
    }

    private static void lives() {
        fresh("A client's LIFE is 0 at first and rises by one when it starts", (b, x) -> {
            for (int life = 1; life < 4; life++) {
                check.due("client 0", x.start(0), life);
                check.due("client 3", x.start(3), life);
            }
            check.due("client 1", x.start(1), 1);
        });
    }

    private static void neverStarted() {
        fresh("a client that never started has no calls", (b, x) -> {
            for (int slot = 0; slot < 3; slot++) {
                noCall(x, 0, slot);
                noCall(x, 3, slot);
            }
        });
        fresh("step: illegal state: the client never started", (b, x) -> {
            x.start(1);
            check.illegalState("client 0", () -> x.step(0, 0, 0, 0, 0, 0, 0));
            check.illegalState("client 3", () -> x.step(3, 2, 13, 0, 0, 0, 0));
            check.due("client 1", x.step(1, 0, 0, 0, 0, 0, 0), 1);
            check.due("then it starts", x.start(0), 1);
            check.due("and nothing was built", x.step(0, 0, 0, 0, 0, 0, 0), 1);
        });
    }

    private static void startsAgain() {
        edge("a client that starts again has no calls", (b, x) -> {
            b.done(0, 0, s(Ops.ROOT));
            check.due("answered", x.code(0, 0, 0), Ops.OK);
            x.start(0);
            noCall(x, 0, 0);
        });
        edge("What is open is forgotten by the client when it starts again", (b, x) -> {
            b.sent(0, 2, s(Ops.ROOT));
            x.start(0);
            noCall(x, 0, 2);
            check.due("a step", x.step(0, 2, 0, 0, 0, 0, 0), 1);
        });
        edge("What is being built is forgotten by the client when it starts again", (b, x) -> {
            x.step(0, 1, 0, 0, 0, 0, 0);
            x.step(0, 1, 0, 0, 0, 0, 0);
            x.start(0);
            noCall(x, 0, 1);
            check.due("a step", x.step(0, 1, 0, 0, 0, 0, 0), 1);
        });
        edge("(not its datagrams)", (b, x) -> {
            int d = b.sent(0, 2, s(Ops.ROOT, 5));
            x.start(0);
            check.due("carry", x.carry(d, false), DONE);
            check.due("handle", x.handle(0, 5), 0);
            check.due("its answer is for none", x.code(0, 2, 0), NONE);
        });
        edge("when it starts again, another client forgets nothing", (b, x) -> {
            b.sent(1, 0, s(Ops.ROOT));
            x.step(1, 1, 0, 0, 0, 0, 0);
            x.start(0);
            check.due("open", x.code(1, 0, 0), WAITING);
            check.due("built", x.step(1, 1, 0, 0, 0, 0, 0), 2);
        });
    }

    private static void steps() {
        for (int slot : new int[] {0, 2}) {
            edge("a CALL of one to four STEPS: how many it has", (b, x) -> {
                for (int n = 1; n <= 4; n++) {
                    check.due("step", x.step(3, slot, 13, Ops.MIN, Ops.MAX, -1, 0), n);
                }
            });
        }
        edge("step: illegal state: it has four", (b, x) -> {
            for (int h = 0; h < 4; h++) {
                x.step(0, 0, Ops.ROOT, h, 0, 0, 0);
            }
            check.illegalState("a fifth", () -> x.step(0, 0, Ops.ROOT, 4, 0, 0, 0));
            check.due("the others are sent", x.carry(x.send(0, 0), false), DONE);
            check.due("the fourth", x.handle(0, 3), 0);
            check.due("the fifth", x.handle(0, 4), NONE);
        });
        edge("step: op is 0 .. 13", (b, x) -> {
            check.due("0", x.step(0, 0, 0, 0, 0, 0, 0), 1);
            check.due("13", x.step(0, 0, 13, 0, 0, 0, 0), 2);
            for (int op : new int[] {-1, 14, Ops.MIN, Ops.MAX}) {
                check.illegalArgument("op " + op, () -> x.step(0, 0, op, 0, 0, 0, 0));
            }
            check.due("no more came", x.step(0, 0, 0, 0, 0, 0, 0), 3);
        });
        edge("step: illegal state: a call is open there", (b, x) -> {
            int d = b.sent(0, 0, s(Ops.ROOT));
            check.illegalState("slot 0", () -> x.step(0, 0, 0, 0, 0, 0, 0));
            check.due("slot 1", x.step(0, 1, 0, 0, 0, 0, 0), 1);
            x.carry(d, false);
            check.due("slot 0 when it was answered", x.step(0, 0, 0, 0, 0, 0, 0), 1);
        });
        edge("send: illegal state: none is being built there", (b, x) -> {
            check.illegalState("no call", () -> x.send(0, 0));
            int d = b.sent(0, 0, s(Ops.ROOT));
            check.illegalState("an open one", () -> x.send(0, 0));
            x.carry(d, false);
            check.illegalState("an answered one", () -> x.send(0, 0));
            x.step(0, 1, 0, 0, 0, 0, 0);
            check.illegalState("in another slot", () -> x.send(0, 0));
            check.illegalState("of another client", () -> x.send(1, 1));
            check.due("there", x.send(0, 1), 1);
        });
    }

    private static void datagrams() {
        edge("numbered 0, 1, .. over all clients", (b, x) -> {
            check.due("the first", b.sent(3, 2, s(Ops.ROOT)), 0);
            check.due("the second", b.sent(0, 0, s(Ops.ROOT)), 1);
            x.start(3);
            check.due("of another life", b.sent(3, 2, s(Ops.ROOT)), 2);
        });
        // 300 steps and 300 sends are more than the 512 calls of an object: the bound is kept all the same.
        edge("300 at most", (b, x) -> {
            for (int i = 0; i < 300; i++) {
                check.due("datagram", x.carry(b.sent(0, 0, s(Ops.ROOT, i % 8)), false), DONE);
            }
            x.step(0, 0, Ops.ROOT, 7, 0, 0, 0);
            check.illegalState("one more", () -> x.send(0, 0));
            check.due("it is being built still", x.step(0, 0, 0, 0, 0, 0, 0), 2);
            check.illegalArgument("no datagram 300", () -> x.carry(300, false));
            check.due("datagram 299", x.carry(299, false), AGAIN);
        });
        edge("carry: there is no such datagram", (b, x) -> {
            check.illegalArgument("none was sent", () -> x.carry(0, false));
            int d = b.sent(0, 0, s(Ops.ROOT));
            for (int wrong : new int[] {-1, 1, 300, Ops.MIN, Ops.MAX}) {
                check.illegalArgument("datagram " + wrong, () -> x.carry(wrong, false));
            }
            check.due("carry", x.carry(d, false), DONE);
        });
    }

    private static void numbers() {
        edge("1 for the first of a life, and so on", (b, x) -> {
            int first = b.sent(0, 0, s(Ops.ROOT));
            x.carry(first, false);
            int second = b.sent(0, 0, s(Ops.ROOT));
            check.due("the second", x.carry(second, false), DONE);
            x.start(0);
            int firstAgain = b.sent(0, 0, s(Ops.ROOT));
            check.due("the first of the next life", x.carry(firstAgain, false), DONE);
            check.due("the second of it", b.done(0, 0, s(Ops.ROOT)), DONE);
        });
        edge("the call's NUMBER in its slot", (b, x) -> {
            b.done(0, 0, s(Ops.ROOT));
            b.done(0, 0, s(Ops.ROOT));
            check.due("the first of slot 1", b.done(0, 1, s(Ops.ROOT)), DONE);
            check.due("the third of slot 0", b.done(0, 0, s(Ops.ROOT)), DONE);
        });
    }

    private static void open() {
        edge("it is OPEN until its answer has come", (b, x) -> {
            int d = b.sent(0, 0, s(Ops.ROOT));
            check.due("sent", x.code(0, 0, 0), WAITING);
            x.carry(d, true);
            check.due("the answer is lost", x.code(0, 0, 0), WAITING);
            x.carry(d, true);
            check.due("and lost again", x.code(0, 0, 0), WAITING);
            check.illegalState("a step", () -> x.step(0, 0, 0, 0, 0, 0, 0));
            x.carry(d, false);
            check.due("it has come", x.code(0, 0, 0), Ops.OK);
        });
        edge("it is OPEN also when the datagram is of no avail", (b, x) -> {
            int d = b.sent(0, 0, s(Ops.ROOT));
            x.stop(NONE);
            check.due("carry", x.carry(d, false), NO_AVAIL);
            check.due("code", x.code(0, 0, 0), WAITING);
        });
    }

    private static void oldAndNewLives() {
        edge("of no avail if its life is less than that known", (b, x) -> {
            b.done(0, 1, s(Ops.ROOT, 1));
            int old = b.sent(0, 0, s(Ops.ROOT, 2));
            x.start(0);
            b.done(0, 0, s(Ops.ROOT, 3));
            check.due("carry", x.carry(old, false), NO_AVAIL);
            check.due("also what was answered", x.carry(0, false), NO_AVAIL);
            check.due("handle", x.handle(0, 2), NONE);
        });
        check.sentence("if its life is greater, of no avail if its number is not 1", () -> {
            check.due("life 1, number 2", fateOf(0, 0, 1, 2), NO_AVAIL);
            check.due("life 1, number 1", fateOf(0, 0, 1, 1), DONE);
            check.due("life 2, number 2, as if one more", fateOf(1, 1, 2, 2), NO_AVAIL);
            check.due("life 2, number 3, as if again", fateOf(1, 3, 2, 3), NO_AVAIL);
            check.due("life 2, number 1", fateOf(1, 1, 2, 1), DONE);
        });
        edge("otherwise of a new life: also when lives between never came", (b, x) -> {
            b.done(0, 0, s(Ops.ROOT, 1));
            x.start(0);
            int between = b.sent(0, 0, s(Ops.ROOT, 2));
            x.start(0);
            check.due("the third", b.done(0, 0, s(Ops.ROOT, 3)), DONE);
            check.due("that is known from now on", x.carry(between, false), NO_AVAIL);
            check.due("handle", x.handle(0, 2), NONE);
        });
        edge("a start alone tells the server nothing", (b, x) -> {
            int d = b.sent(0, 0, s(Ops.ROOT, 1));
            x.carry(d, false);
            x.start(0);
            check.due("carry", x.carry(d, false), AGAIN);
            check.due("handle", x.handle(0, 1), 0);
        });
        edge("another client's life counts for nothing", (b, x) -> {
            int d = b.sent(0, 0, s(Ops.ROOT));
            x.start(1);
            b.done(1, 0, s(Ops.ROOT));
            check.due("carry", x.carry(d, false), DONE);
        });
    }

    /** What comes of a datagram that no client sends: a second call is sent only when the first was answered. */
    private static int fateOf(int known, int last, int life, int number) {
        SlotServer.Server server = new SlotServer.Server();
        SlotServer.Post post = new SlotServer.Post();
        server.disk.lives[0] = known;
        server.disk.lastCalls[0] = last;
        post.life[0] = life;
        post.number[0] = number;
        post.sent = 1;
        return server.fateOf(post, 0);
    }

    /** Client 0 has handles 0 and 1, the file's bytes 0 to 3 alone, and a call that was done in each slot. */
    private static void lockedAndKnown(Bench b) {
        b.openFile(0);
        b.openFile(1);
        b.done(0, 1, s(Ops.LOCK, 1, 0, 3, 2));
        b.done(0, 2, s(Ops.ROOT, 7));
        b.done(1, 1, s(Ops.LOCK, 1, 8, 9, 1));
    }

    private static void whatANewLifeTakes() {
        edge("of a new life: the client's handles are gone", (b, x) -> {
            lockedAndKnown(b);
            x.start(0);
            b.done(0, 0, s(Ops.READ, 1, 0));
            check.due("before its first step", x.code(0, 0, 0), Ops.STALE);
            for (int h = 0; h < 8; h++) {
                check.due("handle " + h, x.handle(0, h), NONE);
            }
            check.due("another's", x.handle(1, 1), 1);
        });
        edge("of a new life: locks and lease are gone", (b, x) -> {
            lockedAndKnown(b);
            x.start(0);
            b.done(0, 0, s(Ops.ROOT));
            check.due("lock", x.lock(0, 1, 0) + x.lock(0, 1, 3), 0);
            check.due("lease", x.lease(0), 0);
            check.due("another's lock", x.lock(1, 1, 8), Ops.SHARED);
            check.due("another's lease", x.lease(1), 30000);
            check.due("another may write", b.one(1, 0, Ops.WRITE, 1, 0, 1), Ops.OK);
        });
        edge("of a new life: locks (former ones, too) are gone", (b, x) -> {
            lockedAndKnown(b);
            x.stop(NONE);
            x.boot();
            check.due("before", x.lock(0, 1, 0), Ops.FORMER_ALONE);
            x.start(0);
            b.done(0, 0, s(Ops.ROOT));
            check.due("lock", x.lock(0, 1, 0) + x.lock(0, 1, 3), 0);
            check.due("another's", x.lock(1, 1, 8), Ops.FORMER_SHARED);
            check.due("another may write", b.one(1, 0, Ops.WRITE, 1, 0, 1), Ops.OK);
        });
        edge("of a new life: its slots have done nothing", (b, x) -> {
            lockedAndKnown(b);
            x.start(0);
            for (int slot = 0; slot < 3; slot++) {
                check.due("slot " + slot, b.done(0, slot, s(Ops.ROOT, slot)), DONE);
                check.due("answer", x.code(0, slot, 0), Ops.OK);
            }
        });
        edge("of a new life: nodes and bytes stay", (b, x) -> {
            lockedAndKnown(b);
            b.done(0, 0, s(Ops.WRITE, 1, 0, 44));
            x.start(0);
            b.done(0, 0, s(Ops.ROOT), s(Ops.WALK, 0, 1, Bench.FILE_NAME), s(Ops.READ, 1, 0));
            check.due("byte", x.value(0, 0, 2), 44);
        });
    }

    private static void againAndDone() {
        edge("if its number is that of the slot's last call, answered AGAIN, as before", (b, x) -> {
            b.openFile(0);
            b.openFile(1);
            int d = b.sent(0, 2, s(Ops.WRITE, 1, 0, 5), s(Ops.READ, 1, 0));
            check.due("done", x.carry(d, true), DONE);
            b.done(1, 0, s(Ops.WRITE, 1, 0, 6));
            check.due("again", x.carry(d, true), AGAIN);
            check.due("and again", x.carry(d, false), AGAIN);
            check.due("the value of then", x.value(0, 2, 1), 5);
            check.due("not written again", b.valueOf(1, 0, Ops.READ, 1, 0), 6);
        });
        edge("if it is one more, the call is DONE", (b, x) -> {
            check.due("the first", b.done(0, 0, s(Ops.ROOT)), DONE);
            check.due("the second", b.done(0, 0, s(Ops.ROOT)), DONE);
        });
        edge("DONE also when it is refused at its first step", (b, x) -> {
            int d = b.sent(0, 0, s(Ops.READ, 0, 0));
            check.due("carry", x.carry(d, false), DONE);
            check.due("code", x.code(0, 0, 0), Ops.STALE);
            check.due("carry", x.carry(d, false), AGAIN);
        });
        edge("otherwise of no avail: less", (b, x) -> {
            int first = b.sent(0, 0, s(Ops.ROOT), s(Ops.MAKE, 0, 0, 9));
            x.carry(first, false);
            b.done(0, 0, s(Ops.REMOVE, 0, 0, 9));
            check.due("carry", x.carry(first, false), NO_AVAIL);
            check.due("nodes", x.nodes(), 1);
        });
        check.sentence("otherwise of no avail: greater", () -> {
            check.due("the last call", fateOf(1, 3, 1, 3), AGAIN);
            check.due("one more", fateOf(1, 3, 1, 4), DONE);
            check.due("two more", fateOf(1, 3, 1, 5), NO_AVAIL);
            check.due("one less", fateOf(1, 3, 1, 2), NO_AVAIL);
        });
        edge("carry: of no avail also when the server does not run", (b, x) -> {
            int known = b.sent(0, 0, s(Ops.ROOT));
            x.carry(known, false);
            int next = b.sent(0, 1, s(Ops.ROOT, 4));
            x.stop(NONE);
            check.due("again", x.carry(known, false), NO_AVAIL);
            check.due("next", x.carry(next, false), NO_AVAIL);
            check.due("handle", x.handle(0, 4), NONE);
        });
        edge("datagrams that come in any order", (b, x) -> {
            int a = b.sent(0, 0, s(Ops.ROOT, 1));
            int c = b.sent(0, 1, s(Ops.ROOT, 2));
            int e = b.sent(1, 0, s(Ops.ROOT, 3));
            check.due("the last", x.carry(e, false), DONE);
            check.due("the second", x.carry(c, false), DONE);
            check.due("the first", x.carry(a, false), DONE);
            check.due("the second again", x.carry(c, false), AGAIN);
        });
    }

    private static void answers() {
        edge("The steps of a call are done up to the first whose CODE is not OK, that one too", (b, x) -> {
            b.done(0, 0, s(Ops.ROOT), s(Ops.MAKE, 0, 0, 9), s(Ops.MAKE, 0, 0, 9), s(Ops.MAKE, 0, 0, 8));
            int[] codes = {Ops.OK, Ops.OK, Ops.EXISTS, NONE};
            int[] values = {0, 1, 0, NONE};
            for (int i = 0; i < 4; i++) {
                check.due("code " + i, x.code(0, 0, i), codes[i]);
                check.due("value " + i, x.value(0, 0, i), values[i]);
            }
            check.due("nodes", x.nodes(), 2);
        });
        edge("The steps of a call: refused at the first", (b, x) -> {
            b.done(0, 0, s(Ops.LIST, 0, 0), s(Ops.ROOT, 0));
            check.due("code 0", x.code(0, 0, 0), Ops.STALE);
            check.due("value 0", x.value(0, 0, 0), 0);
            check.due("code 1", x.code(0, 0, 1), NONE);
            check.due("handle", x.handle(0, 0), NONE);
        });
        edge("The steps of a call: refused at the last", (b, x) -> {
            b.done(0, 0, s(Ops.ROOT), s(Ops.ROOT, 1), s(Ops.ROOT, 2), s(Ops.ROOT, 8));
            check.due("code 3", x.code(0, 0, 3), Ops.BAD);
            check.due("value 3", x.value(0, 0, 3), 0);
        });
        edge("The steps of a call are done in their order", (b, x) -> {
            b.done(0, 0, s(Ops.ROOT, 0), s(Ops.MAKE, 0, 1, 9), s(Ops.WALK, 0, 0, 9), s(Ops.MAKE, 0, 0, 9));
            check.due("code 3", x.code(0, 0, 3), Ops.OK);
            check.due("in the directory", x.node(2, 1), 1);
        });
        edge("a value (0 unless it is told): READ tells -1", (b, x) -> {
            b.openFile(0);
            check.due("code", b.one(0, 0, Ops.READ, 1, 0), Ops.OK);
            check.due("value", x.value(0, 0, 0), -1);
        });
    }

    private static void takenByTheClient() {
        edge("takes it if its call of that life is open still", (b, x) -> {
            int old = b.sent(0, 0, s(Ops.ROOT, 1));
            x.start(0);
            int next = b.sent(0, 0, s(Ops.READ, 1, 0));
            check.due("the old life's", x.carry(old, false), DONE);
            check.due("not taken", x.code(0, 0, 0), WAITING);
            x.carry(next, false);
            check.due("this life's", x.code(0, 0, 0), Ops.STALE);
        });
        edge("takes it if its call of that slot is open still", (b, x) -> {
            b.sent(0, 0, s(Ops.ROOT));
            int other = b.sent(0, 1, s(Ops.ROOT));
            x.carry(other, false);
            check.due("slot 0", x.code(0, 0, 0), WAITING);
            check.due("slot 1", x.code(0, 1, 0), Ops.OK);
        });
        edge("takes it if its call of that number is open still", (b, x) -> {
            int first = b.sent(0, 0, s(Ops.ROOT));
            x.carry(first, false);
            int second = b.sent(0, 0, s(Ops.ROOT, 8));
            check.due("the first again", x.carry(first, false), AGAIN);
            check.due("not taken", x.code(0, 0, 0), WAITING);
            x.carry(second, false);
            check.due("taken", x.code(0, 0, 0), Ops.BAD);
        });
        edge("takes it if it is open: not while the next is being built", (b, x) -> {
            int d = b.sent(0, 0, s(Ops.ROOT));
            x.carry(d, false);
            x.step(0, 0, Ops.ROOT, 1, 0, 0, 0);
            check.due("again", x.carry(d, false), AGAIN);
            check.due("code", x.code(0, 0, 0), NONE);
            check.due("it is built on", x.step(0, 0, Ops.ROOT, 2, 0, 0, 0), 2);
        });
        edge("takes it if it is open: not of another client", (b, x) -> {
            b.sent(1, 0, s(Ops.ROOT));
            b.done(0, 0, s(Ops.ROOT));
            check.due("client 1", x.code(1, 0, 0), WAITING);
        });
    }

    private static void codes() {
        edge("code: WAITING when it is open; value: NONE when code would be WAITING", (b, x) -> {
            b.sent(0, 2, s(Ops.ROOT), s(Ops.ROOT));
            for (int i : new int[] {0, 1, 2, 3, -1, 4, Ops.MIN, Ops.MAX}) {
                check.due("code " + i, x.code(0, 2, i), WAITING);
                check.due("value " + i, x.value(0, 2, i), NONE);
            }
        });
        edge("code: NONE when there is none", (b, x) -> {
            b.done(0, 0, s(Ops.ROOT));
            check.due("slot 1", x.code(0, 1, 0), NONE);
            check.due("value", x.value(0, 1, 0), NONE);
            check.due("client 1", x.code(1, 0, 0), NONE);
        });
        edge("code: NONE when one is being built", (b, x) -> {
            b.done(0, 0, s(Ops.ROOT));
            check.due("before", x.code(0, 0, 0), Ops.OK);
            x.step(0, 0, 0, 0, 0, 0, 0);
            check.due("code", x.code(0, 0, 0), NONE);
            check.due("value", x.value(0, 0, 0), NONE);
        });
        edge("code: NONE when that step was not done (or i is no step)", (b, x) -> {
            b.done(0, 0, s(Ops.ROOT), s(Ops.ROOT, 9), s(Ops.ROOT));
            for (int i : new int[] {2, 3, 4, -1, Ops.MIN, Ops.MAX}) {
                check.due("code " + i, x.code(0, 0, i), NONE);
                check.due("value " + i, x.value(0, 0, i), NONE);
            }
        });
        edge("code: in the answer to the last call, not to a longer one before", (b, x) -> {
            b.done(0, 0, s(Ops.ROOT), s(Ops.ROOT), s(Ops.ROOT), s(Ops.ROOT));
            check.due("code 3", x.code(0, 0, 3), Ops.OK);
            b.done(0, 0, s(Ops.ROOT));
            check.due("code 0", x.code(0, 0, 0), Ops.OK);
            check.due("code 1", x.code(0, 0, 1), NONE);
            check.due("value 1", x.value(0, 0, 1), NONE);
        });
    }

    private static void callsOfAnObject() {
        fresh("An object is used for at most 512 calls: the last ones count, too", (b, x) -> {
            for (int i = 1; i <= 510; i++) {
                check.due("time", x.time(100000), i * 100000);
            }
            check.due("call 511", x.start(0), 1);
            check.due("call 512", x.step(0, 0, 0, 0, 0, 0, 0), 1);
        });
        fresh("at most 512 calls: a lease at the latest time", (b, x) -> {
            x.start(0);
            for (int i = 0; i < 500; i++) {
                x.time(100000);
            }
            x.step(0, 0, Ops.RENEW, 0, 0, 0, 0);
            check.due("carry", x.carry(x.send(0, 0), false), DONE);
            check.due("lease", x.lease(0), 30000);
            x.time(29999);
            check.due("lease", x.lease(0), 1);
            x.time(1);
            check.due("lease", x.lease(0), 0);
        });
    }
}
