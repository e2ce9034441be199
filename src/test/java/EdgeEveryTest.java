/**
 * What the document says of a client, a slot, a handle, a file or a byte holds for each of them, the first and the last
 * too: the same sentences for every client, with all 32 nodes, on the first file and on the last.
 */
public final class EdgeEveryTest {
    private static final int NONE = Ops.NONE;
    private static final int FIRST = 1, LAST = 31;
    private static final int[] FILES = {FIRST, LAST};
    private static final Check check = new Check();

    private interface OnClient {
        void test(Bench b, int client, int file);
    }

    public static void main(String[] args) {
        locksKeepEveryOtherOff();
        everyLeaseEnds();
        everyLockBecomesFormer();
        everyFormerLockIsClaimed();
        everyFormerLockEnds();
        everyNewLife();
        everyHandleIsStale();
        everyTornCall();
        everyTornClaim();
        everySlot();
        everyDatagram();
        bytesAreTheFilesOwn();
        check.end();
    }

    /** The files 1 to 31 by their numbers as names; to each client handle 0 is the root, 1 and 7 the first and the last. */
    private static Bench full() {
        Bench b = new Bench();
        b.done(0, 0, s(Ops.ROOT, 0));
        for (int name = 1; name <= LAST; name++) {
            b.done(0, 0, s(Ops.MAKE, 0, 0, name));
        }
        for (int client = 0; client < 4; client++) {
            b.done(client, 0, s(Ops.ROOT, 0), s(Ops.WALK, 0, 1, FIRST), s(Ops.WALK, 0, 7, LAST));
        }
        return b;
    }

    private static int[] s(int... step) {
        return step;
    }

    private static int handleOf(int file) {
        return file == FIRST ? 1 : 7;
    }

    private static void forEach(String words, OnClient test) {
        for (int client = 0; client < 4; client++) {
            for (int file : FILES) {
                int c = client;
                check.sentence(words + ": client " + c + ", file " + file, () -> test.test(full(), c, file));
            }
        }
    }

    /** The client shares byte 0 and has byte 63 alone, and the file has 64 bytes, the last of them 200. */
    private static void lock(Bench b, int client, int file) {
        int h = handleOf(file);
        b.done(client, 0, s(Ops.SIZE, h, 64), s(Ops.WRITE, h, 63, 200), s(Ops.LOCK, h, 0, 0, 1), s(Ops.LOCK, h, 63, 63, 2));
        check.due("locked", b.x.code(client, 0, 3), Ops.OK);
    }

    private static void restart(Bench b) {
        b.x.stop(NONE);
        b.x.boot();
    }

    private static void locks(Bench b, int client, int file, int first, int last) {
        check.due("byte 0", b.x.lock(client, file, 0), first);
        check.due("byte 63", b.x.lock(client, file, 63), last);
    }

    /** What every other client is answered where the one shares byte 0 and has byte 63 alone. */
    private static void othersAreKeptOff(Bench b, int client, int file, int sharing, int locking) {
        int h = handleOf(file);
        for (int other = 0; other < 4; other++) {
            if (other == client) {
                continue;
            }
            check.due("READ what is shared", b.one(other, 1, Ops.READ, h, 0), Ops.OK);
            check.due("READ what is alone", b.one(other, 1, Ops.READ, h, 63), Ops.LOCKED);
            check.due("WRITE what is shared", b.one(other, 1, Ops.WRITE, h, 0, 1), Ops.LOCKED);
            check.due("WRITE what is alone", b.one(other, 1, Ops.WRITE, h, 63, 1), Ops.LOCKED);
            check.due("SIZE 63", b.one(other, 1, Ops.SIZE, h, 63), Ops.LOCKED);
            check.due("SIZE 64", b.one(other, 1, Ops.SIZE, h, 64), Ops.OK);
            check.due("share what is shared", b.one(other, 1, Ops.LOCK, h, 0, 0, 1), sharing);
            b.done(other, 1, s(Ops.UNLOCK, h, 0, 0));
            check.due("alone what is shared", b.one(other, 1, Ops.LOCK, h, 0, 0, 2), locking);
            check.due("share what is alone", b.one(other, 1, Ops.LOCK, h, 63, 63, 1), locking);
            check.due("CLAIM another's", b.one(other, 1, Ops.CLAIM, h, 63, 63, 2), Ops.LOST);
            check.due("not their own", b.x.lock(other, file, 0) + b.x.lock(other, file, 63), 0);
        }
    }

    private static void locksKeepEveryOtherOff() {
        forEach("LOCKED if another client has a lock", (b, client, file) -> {
            lock(b, client, file);
            othersAreKeptOff(b, client, file, Ops.OK, Ops.LOCKED);
            check.due("itself", b.one(client, 1, Ops.HELD, handleOf(file), 63, 9), Ops.OK);
        });
        forEach("In the time of grace former locks keep others off like locks", (b, client, file) -> {
            lock(b, client, file);
            restart(b);
            othersAreKeptOff(b, client, file, Ops.GRACE, Ops.GRACE);
            check.due("itself", b.one(client, 1, Ops.WRITE, handleOf(file), 63, 9), Ops.OK);
        });
        forEach("SIZE: no byte comes or goes, whatever is locked", (b, client, file) -> {
            int h = handleOf(file);
            int other = (client + 1) % 4;
            b.done(client, 0, s(Ops.LOCK, h, 0, 63, 2));
            check.due("none of none", b.valueOf(other, 0, Ops.SIZE, h, 0), 0);
            b.done(client, 0, s(Ops.SIZE, h, 64));
            check.due("64 of 64", b.valueOf(other, 0, Ops.SIZE, h, 64), 64);
        });
    }

    private static void everyLeaseEnds() {
        forEach("A client's locks are gone when its lease has ended", (b, client, file) -> {
            lock(b, client, file);
            b.x.time(29999);
            b.done((client + 1) % 4, 0, s(Ops.RENEW, 0));
            locks(b, client, file, 1, 2);
            b.x.time(1);
            locks(b, client, file, 0, 0);
            check.due("lease", b.x.lease(client), 0);
            check.due("another's lease", b.x.lease((client + 1) % 4), 29999);
            check.due("another may lock", b.one((client + 2) % 4, 0, Ops.LOCK, handleOf(file), 0, 63, 2), Ops.OK);
        });
    }

    private static void everyLockBecomesFormer() {
        forEach("locks that there were when it stopped are FORMER, leases have ended", (b, client, file) -> {
            lock(b, client, file);
            restart(b);
            locks(b, client, file, 5, 6);
            check.due("lease", b.x.lease(client), 0);
            restart(b);
            locks(b, client, file, 5, 6);
        });
    }

    private static void everyFormerLockIsClaimed() {
        forEach("CLAIM: these are former no more then", (b, client, file) -> {
            int h = handleOf(file);
            lock(b, client, file);
            restart(b);
            b.done(client, 1, s(Ops.CLAIM, h, 0, 0, 1), s(Ops.CLAIM, h, 63, 63, 2));
            locks(b, client, file, 1, 2);
            check.due("lease", b.x.lease(client), 30000);
            b.done(client, 1, s(Ops.UNLOCK, h, 0, 63));
            locks(b, client, file, 0, 0);
            check.due("shared", b.one(client, 1, Ops.CLAIM, h, 0, 0, 1), Ops.LOST);
            check.due("alone", b.one(client, 1, Ops.CLAIM, h, 63, 63, 2), Ops.LOST);
            check.due("another may write", b.one((client + 1) % 4, 1, Ops.WRITE, h, 0, 1), Ops.OK);
        });
    }

    private static void everyFormerLockEnds() {
        forEach("former locks are gone when it ends", (b, client, file) -> {
            lock(b, client, file);
            restart(b);
            b.x.time(29999);
            locks(b, client, file, 5, 6);
            b.x.time(1);
            locks(b, client, file, 0, 0);
            check.due("another may write", b.one((client + 1) % 4, 1, Ops.WRITE, handleOf(file), 0, 1), Ops.OK);
        });
    }

    private static void everyNewLife() {
        forEach("of a new life: handles, locks and lease are gone", (b, client, file) -> {
            lock(b, client, file);
            lock(b, (client + 1) % 4, LAST + FIRST - file);
            b.x.start(client);
            b.done(client, 2, s(Ops.RENEW, 8));
            locks(b, client, file, 0, 0);
            check.due("lease", b.x.lease(client), 0);
            for (int h = 0; h < 8; h++) {
                check.due("handle " + h, b.x.handle(client, h), NONE);
            }
            locks(b, (client + 1) % 4, LAST + FIRST - file, 1, 2);
            check.due("another's lease", b.x.lease((client + 1) % 4), 30000);
            check.due("another's first handle", b.x.handle((client + 1) % 4, 0), 0);
            check.due("another's last handle", b.x.handle((client + 3) % 4, 7), LAST);
        });
        forEach("of a new life: locks (former ones, too) are gone", (b, client, file) -> {
            lock(b, client, file);
            lock(b, (client + 1) % 4, LAST + FIRST - file);
            restart(b);
            b.x.start(client);
            b.done(client, 2, s(Ops.ROOT, 0));
            locks(b, client, file, 0, 0);
            locks(b, (client + 1) % 4, LAST + FIRST - file, 5, 6);
            check.due("another may write", b.one((client + 1) % 4, 0, Ops.WRITE, handleOf(file), 0, 1), Ops.OK);
        });
        forEach("of a new life: its slots have done nothing, another's have", (b, client, file) -> {
            int[][] old = callsInEverySlot(b);
            b.x.start(client);
            for (int slot = 2; slot >= 0; slot--) {
                check.due("slot " + slot, b.done(client, slot, s(Ops.ROOT, 0)), Ops.DONE);
            }
            for (int other = 0; other < 4; other++) {
                for (int slot = 0; slot < 3; slot++) {
                    check.due("again", b.x.carry(old[other][slot], false), other == client ? Ops.NO_AVAIL : Ops.AGAIN);
                }
            }
        });
    }

    private static int[][] callsInEverySlot(Bench b) {
        int[][] sent = new int[4][3];
        for (int client = 0; client < 4; client++) {
            for (int slot = 0; slot < 3; slot++) {
                sent[client][slot] = b.sent(client, slot, s(Ops.ROOT, 2 + slot), s(Ops.LIST, 0, client * 3 + slot));
                b.x.carry(sent[client][slot], true);
            }
        }
        return sent;
    }

    private static void everyHandleIsStale() {
        forEach("bound to a node that is gone: STALE", (b, client, file) -> {
            for (int other = 0; other < 4; other++) {
                b.done(other, 0, s(Ops.WALK, 0, 7, file), s(Ops.WALK, 0, 6, FIRST + 1), s(Ops.WALK, 0, 0, file));
            }
            b.done(client, 1, s(Ops.ROOT, 1), s(Ops.REMOVE, 1, 0, file), s(Ops.MAKE, 1, 0, file));
            check.due("the same number", b.x.value(client, 1, 2), file);
            for (int other = 0; other < 4; other++) {
                check.due("handle 0", b.x.handle(other, 0), NONE);
                check.due("handle 7", b.x.handle(other, 7), NONE);
                check.due("handle 6", b.x.handle(other, 6), FIRST + 1);
                check.due("READ", b.one(other, 1, Ops.READ, 7, 0), Ops.STALE);
            }
        });
        forEach("REMOVE: is gone, with all locks on it", (b, client, file) -> {
            lock(b, client, file);
            b.done((client + 1) % 4, 1, s(Ops.REMOVE, 0, 0, file), s(Ops.MAKE, 0, 0, file));
            locks(b, client, file, 0, 0);
            check.due("no bytes", b.x.node(file, 3), 0);
            check.due("nodes", b.x.nodes(), 32);
        });
        forEach("REMOVE: with all locks on it, former ones", (b, client, file) -> {
            lock(b, client, file);
            restart(b);
            b.done((client + 1) % 4, 1, s(Ops.REMOVE, 0, 0, file), s(Ops.MAKE, 0, 0, file));
            locks(b, client, file, 0, 0);
        });
    }

    private static void everyTornCall() {
        forEach("If it stops before all are written, nothing of the call was done", (b, client, file) -> {
            int h = handleOf(file);
            lock(b, client, file);
            int d = b.sent(client, 2, s(Ops.WRITE, h, 63, 1), s(Ops.UNLOCK, h, 0, 63), s(Ops.LOCK, h, 5, 5, 2), s(Ops.ROOT, 7));
            b.x.stop(4);
            check.due("carry", b.x.carry(d, false), Ops.TORN);
            check.due("handle", b.x.handle(client, 7), LAST);
            b.x.boot();
            locks(b, client, file, 5, 6);
            check.due("byte 5", b.x.lock(client, file, 5), 0);
            check.due("handle anew", b.x.handle(client, 7), LAST);
            check.due("byte 63", b.valueOf(client, 1, Ops.READ, h, 63), 200);
            check.due("carry anew", b.x.carry(d, false), Ops.DONE);
        });
        forEach("nothing of the call was done: a file that goes", (b, client, file) -> {
            lock(b, client, file);
            int d = b.sent(client, 2, s(Ops.REMOVE, 0, 0, file), s(Ops.MAKE, 0, 1, file));
            b.x.stop(2);
            check.due("carry", b.x.carry(d, false), Ops.TORN);
            b.x.boot();
            check.due("kind", b.x.node(file, 0), 0);
            check.due("bytes", b.x.node(file, 3), 64);
            locks(b, client, file, 5, 6);
            for (int other = 0; other < 4; other++) {
                check.due("handle", b.x.handle(other, handleOf(file)), file);
            }
            check.due("byte 63", b.valueOf(client, 1, Ops.READ, handleOf(file), 63), 200);
        });
    }

    private static void everyTornClaim() {
        forEach("nothing of a claim, or of a new life, was done", (b, client, file) -> {
            int h = handleOf(file);
            lock(b, client, file);
            restart(b);
            int d = b.sent(client, 2, s(Ops.CLAIM, h, 0, 0, 1), s(Ops.CLAIM, h, 63, 63, 2), s(Ops.UNLOCK, h, 0, 63));
            b.x.stop(3);
            check.due("carry", b.x.carry(d, false), Ops.TORN);
            b.x.boot();
            locks(b, client, file, 5, 6);
            b.x.start(client);
            b.x.stop(0);
            check.due("carry a new life", b.done(client, 1, s(Ops.ROOT, 2)), Ops.TORN);
            b.x.boot();
            locks(b, client, file, 5, 6);
            check.due("the old life's call", b.x.carry(d, false), Ops.DONE);
            locks(b, client, file, 0, 0);
        });
    }

    private static void everySlot() {
        for (int i = 0; i < 12; i++) {
            int torn = i;
            check.sentence("calls and answers of every slot, when one was not written: " + i, () -> tornInASlot(torn));
        }
    }

    /** Slots are counted over all clients here. */
    private static void tornInASlot(int torn) {
        Bench b = full();
        int[][] sent = callsInEverySlot(b);
        b.x.carry(sent[torn / 3][torn % 3], false);
        int next = b.sent(torn / 3, torn % 3, s(Ops.ROOT, 2), s(Ops.ROOT, 3));
        b.x.stop(2);
        check.due("torn", b.x.carry(next, false), Ops.TORN);
        b.x.boot();
        for (int i = 0; i < 12; i++) {
            check.due("again", b.x.carry(sent[i / 3][i % 3], false), Ops.AGAIN);
            check.due("value", b.x.value(i / 3, i % 3, 1), i == torn ? NONE : i + 1);
        }
        check.due("done", b.x.carry(next, false), Ops.DONE);
    }

    private static void everyDatagram() {
        check.sentence("datagrams in any order, each with its own steps", () -> {
            Bench b = new Bench();
            int[] sent = new int[12];
            for (int i = 0; i < 12; i++) {
                sent[i] = b.sent(i / 3, i % 3, s(Ops.ROOT, i % 3), s(Ops.MAKE, i % 3, 0, 10 + i), s(Ops.WALK, i % 3, 5 + i % 3, 10 + i),
                    s(Ops.WRITE, 5 + i % 3, i, i));
            }
            for (int k = 0; k < 12; k++) {
                int i = (k * 5 + 7) % 12;
                check.due("carry " + i, b.x.carry(sent[i], false), Ops.DONE);
                check.due("MAKE", b.x.value(i / 3, i % 3, 1), k + 1);
                check.due("WRITE", b.x.value(i / 3, i % 3, 3), i + 1);
                check.due("name", b.x.node(k + 1, 2), 10 + i);
                check.due("handle", b.x.handle(i / 3, 5 + i % 3), k + 1);
            }
        });
    }

    private static void bytesAreTheFilesOwn() {
        for (int file = FIRST; file < LAST; file += LAST - 2) {
            int f = file;
            check.sentence("a file has bytes, 64 at most: those of the one beside it are not its own: " + f, () -> {
                Bench b = full();
                b.done(0, 0, s(Ops.WALK, 0, 1, f), s(Ops.WALK, 0, 2, f + 1), s(Ops.WRITE, 1, 63, 11), s(Ops.WRITE, 2, 0, 22));
                check.due("byte 64 of the one", b.valueOf(0, 0, Ops.READ, 1, 64), -1);
                check.due("bytes of the other", b.x.node(f + 1, 3), 1);
                b.done(0, 0, s(Ops.SIZE, 1, 5));
                check.due("byte 0 of the other", b.valueOf(0, 0, Ops.READ, 2, 0), 22);
                b.done(0, 0, s(Ops.SIZE, 1, 64), s(Ops.WRITE, 1, 63, 11), s(Ops.REMOVE, 0, 0, f + 1));
                check.due("byte 63 of the one", b.valueOf(0, 0, Ops.READ, 1, 63), 11);
                b.done(0, 0, s(Ops.MAKE, 0, 0, f + 1), s(Ops.WALK, 0, 2, f + 1), s(Ops.WRITE, 2, 0, 33), s(Ops.REMOVE, 0, 0, f));
                check.due("byte 0 of the other when the one is gone", b.valueOf(0, 0, Ops.READ, 2, 0), 33);
            });
        }
        check.sentence("the last file with 64 bytes is cut, and goes", () -> {
            Bench b = full();
            check.due("64", b.valueOf(0, 0, Ops.WRITE, 7, 63, 1), 64);
            check.due("cut", b.valueOf(0, 0, Ops.SIZE, 7, 63), 64);
            check.due("64 again", b.valueOf(0, 0, Ops.SIZE, 7, 64), 63);
            check.due("gone", b.valueOf(0, 0, Ops.REMOVE, 0, 0, LAST), LAST);
        });
    }
}
