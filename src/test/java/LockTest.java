/** Steps on locks, and promises 10 (time), 15 (lock) and 16 (lease). */
public final class LockTest {
    private static final int OK = SlotServer.OK, BAD = SlotServer.BAD, LOCKED = SlotServer.LOCKED;
    private static final int LOST = SlotServer.LOST, GRACE = SlotServer.GRACE, STALE = SlotServer.STALE;
    private static final int MAKE = 2, REMOVE = 3, MOVE = 4, READ = 5, WRITE = 6, HELD = 7, SIZE = 8;
    private static final int LOCK = 10, UNLOCK = 11, RENEW = 12, CLAIM = 13;
    private static final int SHARED = 1, ALONE = 2, FORMER_SHARED = 5, FORMER_ALONE = 6;
    private static final int MIN = Integer.MIN_VALUE, MAX = Integer.MAX_VALUE;
    private static final Check check = new Check();

    public static void main(String[] args) {
        wrongQuestions();
        times();
        badRanges();
        ranges();
        sharedAndAlone();
        inPlaceOfOwnOnes();
        readWriteHeld();
        sizeUnderLocks();
        leases();
        endedLeaseIsNotRevived();
        leasesAreApart();
        removedWithItsLocks();
        graceKeepsOthersOff();
        claims();
        graceEnds();
        formerOverSeveralStops();
        lateBoot();
        check.end();
    }

    private static int[] s(int... step) {
        return step;
    }

    /** Clients 0, 1 and 2 have the file as handle 1 and the root as handle 0; the file has 10 bytes. */
    private static Bench bench() {
        Bench bench = new Bench();
        for (int client = 0; client < 3; client++) {
            bench.openFile(client);
        }
        bench.done(0, 0, s(SIZE, 1, 10));
        return bench;
    }

    private static void restart(Bench bench) {
        bench.x.stop(SlotServer.NONE);
        bench.x.boot();
    }

    private static void wrongQuestions() {
        SlotServer x = bench().x;
        check.illegalArgument("lock of client -1", () -> x.lock(-1, 1, 0));
        check.illegalArgument("lock of client 4", () -> x.lock(4, 1, 0));
        check.illegalArgument("lock on node -1", () -> x.lock(0, -1, 0));
        check.illegalArgument("lock on node 32", () -> x.lock(0, 32, 0));
        check.illegalArgument("lock on byte -1", () -> x.lock(0, 1, -1));
        check.illegalArgument("lock on byte 64", () -> x.lock(0, 1, 64));
        check.illegalArgument("lease of client -1", () -> x.lease(-1));
        check.illegalArgument("lease of client 4", () -> x.lease(4));
        x.stop(SlotServer.NONE);
        check.illegalArgument("lock on byte 64 of one that doesn't run", () -> x.lock(0, 1, 64));
        check.illegalArgument("lease of client 4 of one that doesn't run", () -> x.lease(4));
    }

    private static void times() {
        SlotServer x = new SlotServer();
        check.illegalArgument("-1", () -> x.time(-1));
        check.illegalArgument("100001", () -> x.time(100001));
        check.illegalArgument("MAX", () -> x.time(MAX));
        check.due("none", x.time(0), 0);
        check.due("the most", x.time(100000), 100000);
        check.due("more", x.time(1), 100001);
        x.stop(SlotServer.NONE);
        check.due("also when it doesn't run", x.time(9), 100010);
        x.boot();
        check.due("and afterwards", x.time(0), 100010);
    }

    private static void badRanges() {
        Bench bench = bench();
        int[][] bad = {{-1, 5}, {5, 4}, {0, 64}, {64, 64}, {MIN, MAX}, {MAX, MIN}, {63, 62}};
        for (int[] n : bad) {
            for (int op : new int[] {LOCK, UNLOCK, CLAIM}) {
                check.due("op " + op + " " + n[0] + " " + n[1], bench.one(0, 0, op, 1, n[0], n[1], 1), BAD);
            }
        }
        for (int sort : new int[] {0, 3, -1, 5, 6, MIN}) {
            check.due("LOCK of sort " + sort, bench.one(0, 0, LOCK, 1, 0, 0, sort), BAD);
            check.due("CLAIM of sort " + sort, bench.one(0, 0, CLAIM, 1, 0, 0, sort), BAD);
            check.due("UNLOCK asks no sort", bench.one(0, 0, UNLOCK, 1, 0, 0, sort), OK);
        }
        check.due("no lease from bad ones", bench.x.lease(0), 0);
        restart(bench);
        check.due("BAD before GRACE", bench.one(0, 0, LOCK, 1, 0, 64, 1), BAD);
        check.due("BAD before GRACE: sort", bench.one(0, 0, LOCK, 1, 0, 63, 0), BAD);
    }

    private static void ranges() {
        int[][] good = {{0, 63}, {0, 0}, {63, 63}, {1, 62}, {31, 32}, {5, 40}};
        for (int[] n : good) {
            for (int sort = SHARED; sort <= ALONE; sort++) {
                Bench bench = bench();
                check.due("value", bench.valueOf(0, 0, LOCK, 1, n[0], n[1], sort), 0);
                for (int place = 0; place < 64; place++) {
                    boolean within = place >= n[0] && place <= n[1];
                    check.due("lock on " + place, bench.x.lock(0, 1, place), within ? sort : 0);
                }
                check.due("on this node alone", bench.x.lock(0, 2, n[0]), 0);
                check.due("of this client alone", bench.x.lock(1, 1, n[0]), 0);
            }
        }
    }

    private static void sharedAndAlone() {
        Bench bench = bench();
        SlotServer x = bench.x;
        check.due("shared", bench.one(0, 0, LOCK, 1, 10, 20, SHARED), OK);
        check.due("shared too", bench.one(1, 0, LOCK, 1, 20, 30, SHARED), OK);
        check.due("alone over another's shared", bench.one(1, 0, LOCK, 1, 5, 10, ALONE), LOCKED);
        check.due("it changed nothing", x.lock(1, 1, 5), 0);
        check.due("beside it", bench.one(1, 0, LOCK, 1, 5, 9, ALONE), OK);
        check.due("shared over another's alone", bench.one(2, 0, LOCK, 1, 9, 9, SHARED), LOCKED);
        check.due("alone over another's alone", bench.one(2, 0, LOCK, 1, 0, 5, ALONE), LOCKED);
        check.due("a refused lock gives no lease", x.lease(2), 0);
        check.due("shared over two shared", bench.one(2, 0, LOCK, 1, 10, 63, SHARED), OK);
        check.due("own shared to alone, with another's", bench.one(0, 0, LOCK, 1, 20, 20, ALONE), LOCKED);
        bench.done(1, 0, s(UNLOCK, 1, 20, 20));
        bench.done(2, 0, s(UNLOCK, 1, 20, 20));
        check.due("own shared to alone", bench.one(0, 0, LOCK, 1, 20, 20, ALONE), OK);
        check.due("alone now", x.lock(0, 1, 20), ALONE);
    }

    private static void inPlaceOfOwnOnes() {
        Bench bench = bench();
        SlotServer x = bench.x;
        bench.done(0, 0, s(LOCK, 1, 0, 9, ALONE), s(LOCK, 1, 3, 5, SHARED), s(UNLOCK, 1, 5, 7));
        int[] due = {2, 2, 2, 1, 1, 0, 0, 0, 2, 2, 0};
        for (int i = 0; i < due.length; i++) {
            check.due("lock on " + i, x.lock(0, 1, i), due[i]);
        }
        check.due("another may share where it is shared", bench.one(1, 0, LOCK, 1, 3, 4, SHARED), OK);
        check.due("and have what is free", bench.one(1, 0, LOCK, 1, 5, 7, ALONE), OK);
        check.due("UNLOCK of another's changes nothing", bench.one(2, 0, UNLOCK, 1, 0, 63), OK);
        check.due("still alone", x.lock(0, 1, 0), ALONE);
        check.due("still another's", x.lock(1, 1, 7), ALONE);
        bench.done(0, 0, s(UNLOCK, 1, 0, 63));
        check.due("UNLOCK takes no lease", x.lease(0), 30000);
        check.due("all gone", x.lock(0, 1, 9), 0);
    }

    private static void readWriteHeld() {
        Bench bench = bench();
        bench.done(0, 0, s(LOCK, 1, 2, 2, ALONE), s(LOCK, 1, 4, 4, SHARED), s(LOCK, 1, 63, 63, ALONE));
        check.due("READ where another is alone", bench.one(1, 0, READ, 1, 2), LOCKED);
        check.due("also behind the end", bench.one(1, 0, READ, 1, 63), LOCKED);
        check.due("byte 64 has no lock", bench.valueOf(1, 0, READ, 1, 64), -1);
        check.due("byte 66 is not byte 2", bench.valueOf(1, 0, READ, 1, 66), -1);
        check.due("READ what is shared", bench.valueOf(1, 0, READ, 1, 4), 0);
        check.due("READ one's own", bench.valueOf(0, 0, READ, 1, 2), 0);
        check.due("WRITE where another is alone", bench.one(1, 0, WRITE, 1, 2, 1), LOCKED);
        check.due("WRITE where another shares", bench.one(1, 0, WRITE, 1, 4, 1), LOCKED);
        check.due("BAD before LOCKED", bench.one(1, 0, WRITE, 1, 2, 256), BAD);
        check.due("WRITE where none is", bench.valueOf(1, 0, WRITE, 1, 3, 1), 10);
        check.due("WRITE over locked ones that come", bench.valueOf(1, 0, WRITE, 1, 20, 1), 21);
        check.due("WRITE one's shared", bench.valueOf(0, 0, WRITE, 1, 4, 1), 21);
        check.due("HELD alone", bench.valueOf(0, 0, HELD, 1, 2, 44), 21);
        check.due("it was written", bench.valueOf(0, 0, READ, 1, 2), 44);
        check.due("HELD shared", bench.one(0, 0, HELD, 1, 4, 1), LOST);
        check.due("HELD without", bench.one(0, 0, HELD, 1, 3, 1), LOST);
        check.due("HELD by another", bench.one(1, 0, HELD, 1, 2, 1), LOST);
        check.due("HELD grows", bench.valueOf(0, 0, HELD, 1, 63, 255), 64);
    }

    private static void sizeUnderLocks() {
        Bench bench = bench();
        bench.done(0, 0, s(LOCK, 1, 4, 4, SHARED), s(LOCK, 1, 12, 12, ALONE));
        check.due("byte 4 stays", bench.valueOf(1, 0, SIZE, 1, 5), 10);
        check.due("byte 4 would go", bench.one(1, 0, SIZE, 1, 4), LOCKED);
        check.due("byte 12 would not come", bench.valueOf(1, 0, SIZE, 1, 12), 5);
        check.due("byte 12 would come", bench.one(1, 0, SIZE, 1, 13), LOCKED);
        check.due("nothing changed", bench.x.node(1, 3), 12);
        check.due("BAD before LOCKED", bench.one(1, 0, SIZE, 1, 65), BAD);
        check.due("one's own", bench.valueOf(0, 0, SIZE, 1, 64), 12);
        check.due("the same size goes always", bench.valueOf(1, 0, SIZE, 1, 64), 64);
        check.due("one's own go", bench.valueOf(0, 0, SIZE, 1, 0), 64);
        check.due("none to none", bench.valueOf(1, 0, SIZE, 1, 0), 0);
        bench.done(0, 0, s(LOCK, 1, 0, 0, SHARED), s(LOCK, 1, 63, 63, SHARED), s(SIZE, 1, 63));
        check.due("byte 63 would come", bench.one(1, 0, SIZE, 1, 64), LOCKED);
        check.due("byte 0 would go", bench.one(1, 0, SIZE, 1, 0), LOCKED);
    }

    private static void leases() {
        Bench bench = bench();
        SlotServer x = bench.x;
        check.due("none", x.lease(0), 0);
        bench.done(0, 0, s(LOCK, 1, 0, 0, ALONE));
        check.due("all of it", x.lease(0), 30000);
        x.time(10000);
        check.due("some of it", x.lease(0), 20000);
        check.due("RENEW", bench.valueOf(0, 0, RENEW, 7), 0);
        check.due("all again", x.lease(0), 30000);
        x.time(29999);
        check.due("almost none", x.lease(0), 1);
        check.due("still locked", x.lock(0, 1, 0), ALONE);
        check.due("for others too", bench.one(1, 0, READ, 1, 0), LOCKED);
        x.time(1);
        check.due("ended", x.lease(0), 0);
        check.due("gone", x.lock(0, 1, 0), 0);
        check.due("free", bench.one(1, 0, LOCK, 1, 0, 0, ALONE), OK);
        check.due("lost", bench.one(0, 0, HELD, 1, 0, 0), LOST);
        x.time(100000);
        check.due("long ended", x.lease(1), 0);
        check.due("a step that is refused renews nothing", bench.one(0, 0, RENEW, 8), BAD);
        check.due("so it is", x.lease(0), 0);
    }

    private static void endedLeaseIsNotRevived() {
        Bench bench = bench();
        SlotServer x = bench.x;
        bench.done(0, 0, s(LOCK, 1, 0, 9, ALONE));
        x.time(30000);
        bench.done(0, 0, s(RENEW));
        check.due("a new lease", x.lease(0), 30000);
        check.due("without the old locks", x.lock(0, 1, 5), 0);
        bench.done(0, 0, s(LOCK, 1, 0, 0, SHARED));
        check.due("a new lock", x.lock(0, 1, 0), SHARED);
        check.due("alone", x.lock(0, 1, 1), 0);
    }

    private static void leasesAreApart() {
        Bench bench = bench();
        SlotServer x = bench.x;
        bench.done(0, 0, s(LOCK, 1, 0, 9, SHARED));
        x.time(1);
        bench.done(1, 0, s(LOCK, 1, 0, 9, SHARED));
        x.time(1);
        bench.done(2, 0, s(RENEW));
        x.time(29998);
        check.due("the first ended", x.lease(0), 0);
        check.due("gone", x.lock(0, 1, 3), 0);
        check.due("the second not", x.lease(1), 1);
        check.due("there", x.lock(1, 1, 3), SHARED);
        check.due("the third not", x.lease(2), 2);
    }

    private static void removedWithItsLocks() {
        Bench bench = bench();
        SlotServer x = bench.x;
        bench.done(0, 0, s(LOCK, 1, 0, 9, ALONE));
        check.due("moved with its locks", bench.one(1, 0, MOVE, 0, 0, 5, 6), OK);
        check.due("there", x.lock(0, 1, 9), ALONE);
        check.due("another removes it", bench.valueOf(1, 0, REMOVE, 0, 0, 6), 1);
        check.due("gone", x.lock(0, 1, 9), 0);
        check.due("a lease stays", x.lease(0), 30000);
        check.due("UNLOCK on what is gone", bench.one(0, 0, UNLOCK, 1, 0, 9), STALE);
        check.due("another one with the number", bench.valueOf(1, 0, MAKE, 0, 0, 5), 1);
        check.due("has none", x.lock(0, 1, 9), 0);
        bench.openFile(0);
        bench.done(0, 0, s(LOCK, 1, 0, 4, SHARED), s(LOCK, 1, 5, 9, ALONE));
        bench.done(1, 0, s(REMOVE, 0, 0, 5), s(MAKE, 0, 0, 5));
        check.due("shared ones are gone", x.lock(0, 1, 0), 0);
        check.due("and alone ones", x.lock(0, 1, 9), 0);
        removedWithItsFormerLocks();
    }

    private static void removedWithItsFormerLocks() {
        Bench bench = bench();
        SlotServer x = bench.x;
        bench.done(0, 0, s(LOCK, 1, 0, 4, SHARED), s(LOCK, 1, 5, 9, ALONE));
        restart(bench);
        check.due("former shared", x.lock(0, 1, 0), FORMER_SHARED);
        check.due("former alone", x.lock(0, 1, 9), FORMER_ALONE);
        bench.done(1, 0, s(REMOVE, 0, 0, 5), s(MAKE, 0, 0, 5));
        check.due("made again", x.value(1, 0, 1), 1);
        check.due("former shared ones are gone, too", x.lock(0, 1, 0), 0);
        check.due("former alone ones are gone, too", x.lock(0, 1, 9), 0);
        bench.openFile(0);
        check.due("so they can't be claimed", bench.one(0, 0, CLAIM, 1, 9, 9, ALONE), LOST);
    }

    private static void graceKeepsOthersOff() {
        Bench bench = bench();
        SlotServer x = bench.x;
        bench.done(0, 0, s(LOCK, 1, 0, 3, ALONE), s(LOCK, 1, 4, 7, SHARED));
        restart(bench);
        check.due("READ of a former alone", bench.one(1, 0, READ, 1, 0), LOCKED);
        check.due("READ of a former shared", bench.one(1, 0, READ, 1, 4), OK);
        check.due("WRITE of a former shared", bench.one(1, 0, WRITE, 1, 4, 0), LOCKED);
        check.due("SIZE over former ones", bench.one(1, 0, SIZE, 1, 7), LOCKED);
        check.due("SIZE beside them", bench.one(1, 0, SIZE, 1, 8), OK);
        check.due("no lock in grace", bench.one(1, 0, LOCK, 1, 60, 60, SHARED), GRACE);
        check.due("GRACE before LOCKED", bench.one(1, 0, LOCK, 1, 0, 0, SHARED), GRACE);
        check.due("nor for one's own", bench.one(0, 0, LOCK, 1, 0, 0, ALONE), GRACE);
        check.due("its own former one doesn't keep it off", bench.one(0, 0, WRITE, 1, 0, 9), OK);
        check.due("but is not held", bench.one(0, 0, HELD, 1, 0, 9), LOST);
        check.due("UNLOCK", bench.one(0, 0, UNLOCK, 1, 0, 63), OK);
        check.due("leaves former alone ones", x.lock(0, 1, 0), FORMER_ALONE);
        check.due("and shared ones", x.lock(0, 1, 4), FORMER_SHARED);
        check.due("no lease", x.lease(0), 0);
        check.due("RENEW in grace", bench.one(0, 0, RENEW), OK);
        check.due("a lease", x.lease(0), 30000);
        check.due("former all the same", x.lock(0, 1, 0), FORMER_ALONE);
    }

    private static void claims() {
        Bench bench = bench();
        SlotServer x = bench.x;
        check.due("CLAIM without grace", bench.one(0, 0, CLAIM, 1, 0, 0, ALONE), LOST);
        bench.done(0, 0, s(LOCK, 1, 0, 3, ALONE), s(LOCK, 1, 4, 7, SHARED), s(LOCK, 1, 9, 9, SHARED));
        check.due("CLAIM of what is a lock", bench.one(0, 0, CLAIM, 1, 0, 0, ALONE), LOST);
        restart(bench);
        check.due("of the other sort", bench.one(0, 0, CLAIM, 1, 0, 0, SHARED), LOST);
        check.due("of two sorts", bench.one(0, 0, CLAIM, 1, 3, 4, ALONE), LOST);
        check.due("of two sorts, shared", bench.one(0, 0, CLAIM, 1, 3, 4, SHARED), LOST);
        check.due("over a gap", bench.one(0, 0, CLAIM, 1, 7, 9, SHARED), LOST);
        check.due("of another's", bench.one(1, 0, CLAIM, 1, 0, 0, ALONE), LOST);
        check.due("no lease of these", x.lease(0) + x.lease(1), 0);
        x.time(100);
        check.due("value", bench.valueOf(0, 0, CLAIM, 1, 1, 2, ALONE), 0);
        check.due("a lease", x.lease(0), 30000);
        int[] due = {6, 2, 2, 6, 5, 5, 5, 5, 0, 5};
        for (int i = 0; i < due.length; i++) {
            check.due("lock on " + i, x.lock(0, 1, i), due[i]);
        }
        check.due("held again", bench.one(0, 0, HELD, 1, 1, 9), OK);
        check.due("twice", bench.one(0, 0, CLAIM, 1, 1, 2, ALONE), LOST);
        check.due("partly twice", bench.one(0, 0, CLAIM, 1, 0, 1, ALONE), LOST);
        check.due("UNLOCK of what was claimed", bench.one(0, 0, UNLOCK, 1, 0, 1), OK);
        check.due("former stays", x.lock(0, 1, 0), FORMER_ALONE);
        check.due("claimed is gone", x.lock(0, 1, 1), 0);
        check.due("and no more former", bench.one(0, 0, CLAIM, 1, 1, 1, ALONE), LOST);
        check.due("shared ones", bench.one(0, 0, CLAIM, 1, 4, 6, SHARED), OK);
        check.due("shared", x.lock(0, 1, 6), SHARED);
        bench.done(0, 0, s(UNLOCK, 1, 6, 7));
        check.due("no lock and no more former", x.lock(0, 1, 6), 0);
        check.due("former still", x.lock(0, 1, 7), FORMER_SHARED);
    }

    private static void graceEnds() {
        Bench bench = bench();
        SlotServer x = bench.x;
        bench.done(0, 0, s(LOCK, 1, 0, 3, ALONE), s(LOCK, 1, 4, 4, SHARED));
        restart(bench);
        x.time(100);
        bench.done(0, 0, s(CLAIM, 1, 0, 0, ALONE));
        x.time(29899);
        check.due("the last of grace", bench.one(1, 0, LOCK, 1, 60, 60, SHARED), GRACE);
        check.due("former still", x.lock(0, 1, 1), FORMER_ALONE);
        x.time(1);
        check.due("former is gone", x.lock(0, 1, 1), 0);
        check.due("former shared is gone", x.lock(0, 1, 4), 0);
        check.due("claimed is not", x.lock(0, 1, 0), ALONE);
        check.due("what is left of its lease", x.lease(0), 100);
        check.due("CLAIM after grace", bench.one(0, 0, CLAIM, 1, 1, 1, ALONE), LOST);
        check.due("LOCK after grace", bench.one(1, 0, LOCK, 1, 1, 1, ALONE), OK);
        check.due("LOCK over the claimed one", bench.one(1, 0, LOCK, 1, 0, 0, SHARED), LOCKED);
        x.time(100);
        check.due("its lease ends too", x.lock(0, 1, 0), 0);
    }

    private static void formerOverSeveralStops() {
        Bench bench = bench();
        SlotServer x = bench.x;
        bench.done(0, 0, s(LOCK, 1, 0, 3, ALONE), s(LOCK, 1, 4, 5, SHARED));
        restart(bench);
        bench.done(0, 0, s(CLAIM, 1, 0, 0, ALONE));
        x.time(29999);
        x.stop(SlotServer.NONE);
        x.time(100000);
        x.boot();
        check.due("claimed, then former", x.lock(0, 1, 0), FORMER_ALONE);
        check.due("former, and former again", x.lock(0, 1, 1), FORMER_ALONE);
        check.due("shared ones too", x.lock(0, 1, 4), FORMER_SHARED);
        x.time(29999);
        check.due("grace counts from the last begin", x.lock(0, 1, 1), FORMER_ALONE);
        x.time(1);
        check.due("and ends", x.lock(0, 1, 1), 0);
    }

    private static void lateBoot() {
        Bench bench = bench();
        SlotServer x = bench.x;
        bench.done(0, 0, s(LOCK, 1, 0, 0, SHARED));
        x.time(1);
        bench.done(1, 0, s(LOCK, 1, 0, 0, SHARED));
        x.time(29999);
        x.stop(SlotServer.NONE);
        check.due("no lock when it doesn't run", x.lock(1, 1, 0), 0);
        check.due("no lease when it doesn't run", x.lease(1), 0);
        x.time(50000);
        x.boot();
        check.due("its lease had ended when it stopped", x.lock(0, 1, 0), 0);
        check.due("its lease ended afterwards: former", x.lock(1, 1, 0), FORMER_SHARED);
        check.due("leases have ended", x.lease(1), 0);
        x.stop(SlotServer.NONE);
        check.due("nor former ones when it doesn't run", x.lock(1, 1, 0), 0);
    }
}
