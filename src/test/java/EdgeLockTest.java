/**
 * The sentences of the document on locks, leases, former locks and the time of grace, one by one: each at its boundary,
 * and each condition before the one that stands behind it. A step that is refused must change nothing.
 */
public final class EdgeLockTest {
    private static final int FILE = Scene.FILE, FREE = Scene.FREE, NODE = Scene.FILE_NODE;
    private static final int SHARED = Ops.SHARED, ALONE = Ops.ALONE;
    private static final int MIN = Ops.MIN, MAX = Ops.MAX;
    private static final int[][] NO_RANGES = {{-1, 3}, {MIN, 3}, {3, 2}, {63, 0}, {3, 64}, {3, MAX}, {64, 64}, {MAX, MIN}, {0, -1}};
    private static final int[] NO_SORTS = {0, 3, -1, 5, 6, MIN, MAX};
    private static final Check check = new Check();

    private interface OnScene {
        void test(Scene s);
    }

    public static void main(String[] args) {
        readUnderLocks();
        writeUnderLocks();
        held();
        sizeUnderLocks();
        lockRanges();
        lockAgainstOthers();
        lockInPlaceOfOwn();
        unlock();
        renew();
        leaseOfLocks();
        leaseEnds();
        former();
        formerKeepOthersOff();
        grace();
        claim();
        claimRefused();
        graceEnds();
        stopsInARow();
        check.end();
    }

    private static void edge(String words, OnScene test) {
        check.sentence(words, () -> test.test(new Scene(check)));
    }

    private static void locks(Scene s, int client, int first, int... due) {
        for (int i = 0; i < due.length; i++) {
            check.due("lock of " + client + " on " + (first + i), s.x.lock(client, NODE, first + i), due[i]);
        }
    }

    private static void readUnderLocks() {
        edge("READ: LOCKED if the byte is alone another client's", s -> s.refused(Ops.LOCKED, Ops.READ, FILE, 6));
        edge("READ: LOCKED also behind the file's end", s -> s.refused(Ops.LOCKED, Ops.READ, FILE, 12));
        edge("READ: what another shares", s -> s.valued(0, Ops.READ, FILE, 4));
        edge("READ: what is alone its own", s -> s.valued(100, Ops.READ, FILE, 0));
        edge("READ: beside what is locked", s -> {
            s.valued(0, Ops.READ, FILE, 5);
            s.valued(0, Ops.READ, FILE, 7);
        });
        for (int a : new int[] {64 + 6, 64 + 12, 128 + 6, (1 << 30) + 6}) {
            edge("READ: LOCKED only of 0 .. 63", s -> s.valued(-1, Ops.READ, FILE, a));
        }
        edge("READ: byte 63 is one of 0 .. 63", s -> {
            s.bench.done(1, 0, new int[] {Ops.LOCK, FILE, 63, 63, ALONE});
            s.refused(Ops.LOCKED, Ops.READ, FILE, 63);
            s.valued(-1, Ops.READ, FILE, 64);
        });
        edge("READ: byte 0 is one of 0 .. 63", s -> {
            s.with(Ops.UNLOCK, FILE, 0, 0);
            s.bench.done(1, 0, new int[] {Ops.LOCK, FILE, 0, 0, ALONE});
            check.due("code", s.bench.one(0, 2, Ops.READ, FILE, 0), Ops.LOCKED);
            s.valued(-1, Ops.READ, FILE, 64);
        });
        edge("READ: BAD before LOCKED", s -> s.refused(Ops.BAD, Ops.READ, FILE, 6 - 64));
    }

    private static void writeUnderLocks() {
        edge("WRITE: LOCKED if another client shares the byte", s -> s.refused(Ops.LOCKED, Ops.WRITE, FILE, 4, 1));
        edge("WRITE: LOCKED if another client has it alone", s -> s.refused(Ops.LOCKED, Ops.WRITE, FILE, 6, 1));
        edge("WRITE: LOCKED behind the file's end", s -> s.refused(Ops.LOCKED, Ops.WRITE, FILE, 12, 1));
        edge("WRITE: BAD before LOCKED, a", s -> s.refused(Ops.BAD, Ops.WRITE, FILE, 64 + 6, 1));
        edge("WRITE: BAD before LOCKED, b", s -> s.refused(Ops.BAD, Ops.WRITE, FILE, 6, 256));
        edge("WRITE: what it shares itself", s -> s.valued(10, Ops.WRITE, FILE, 1, 1));
        edge("WRITE: what is alone its own", s -> s.valued(10, Ops.WRITE, FILE, 0, 1));
        edge("WRITE: beside what is locked", s -> s.valued(10, Ops.WRITE, FILE, 5, 1));
        edge("WRITE: a lock on the byte counts, not on those that come before it", s -> s.valued(14, Ops.WRITE, FILE, 13, 1));
    }

    private static void held() {
        edge("HELD: as WRITE", s -> {
            s.valued(10, Ops.HELD, FILE, 0, 7);
            s.valued(7, Ops.READ, FILE, 0);
        });
        edge("HELD: LOST if the client shares the byte", s -> s.refused(Ops.LOST, Ops.HELD, FILE, 1, 7));
        edge("HELD: LOST if the client has no lock on it", s -> s.refused(Ops.LOST, Ops.HELD, FILE, 2, 7));
        edge("HELD: not LOCKED: LOST, another shares it", s -> s.refused(Ops.LOST, Ops.HELD, FILE, 4, 7));
        edge("HELD: not LOCKED: LOST, another has it alone", s -> s.refused(Ops.LOST, Ops.HELD, FILE, 6, 7));
        edge("HELD: BAD before LOST, a", s -> s.refused(Ops.BAD, Ops.HELD, FILE, 64, 7));
        edge("HELD: BAD before LOST, b", s -> s.refused(Ops.BAD, Ops.HELD, FILE, 2, 256));
        edge("HELD: LOST when the lock is former", s -> s.restarted().refused(Ops.LOST, Ops.HELD, FILE, 0, 7));
        edge("HELD: when it was claimed", s -> s.restarted().with(Ops.CLAIM, FILE, 0, 0, ALONE).valued(10, Ops.HELD, FILE, 0, 7));
        edge("HELD: LOST when the lease has ended", s -> {
            s.x.time(29999);
            s.accepted(Ops.HELD, FILE, 0, 7);
            s.x.time(1);
            s.refused(Ops.LOST, Ops.HELD, FILE, 0, 8);
        });
        edge("HELD: bytes 0 and 63", s -> {
            s.with(Ops.LOCK, FREE, 0, 63, ALONE);
            s.valued(1, Ops.HELD, FREE, 0, 7);
            s.valued(64, Ops.HELD, FREE, 63, 7);
        });
    }

    private static void sizeUnderLocks() {
        edge("SIZE: LOCKED, a byte that another has alone goes", s -> s.refused(Ops.LOCKED, Ops.SIZE, FILE, 6));
        edge("SIZE: the byte that another has alone stays", s -> s.valued(10, Ops.SIZE, FILE, 7));
        edge("SIZE: LOCKED, a byte that another shares goes", s -> {
            s.bench.done(1, 0, new int[] {Ops.UNLOCK, FILE, 6, 6});
            s.refused(Ops.LOCKED, Ops.SIZE, FILE, 4);
            s.valued(10, Ops.SIZE, FILE, 5);
        });
        edge("SIZE: LOCKED, a locked byte comes", s -> s.refused(Ops.LOCKED, Ops.SIZE, FILE, 13));
        edge("SIZE: up to a locked byte", s -> s.valued(10, Ops.SIZE, FILE, 12));
        edge("SIZE: LOCKED, all go", s -> s.refused(Ops.LOCKED, Ops.SIZE, FILE, 0));
        edge("SIZE: LOCKED, all come", s -> s.refused(Ops.LOCKED, Ops.SIZE, FILE, 64));
        edge("SIZE: BAD before LOCKED", s -> s.refused(Ops.BAD, Ops.SIZE, FILE, 65));
        edge("SIZE: no byte comes or goes", s -> s.valued(10, Ops.SIZE, FILE, 10));
        edge("SIZE: its own locks do not count", s -> {
            s.with(Ops.LOCK, FREE, 0, 63, ALONE);
            s.valued(0, Ops.SIZE, FREE, 64);
            s.valued(64, Ops.SIZE, FREE, 0);
        });
        edge("SIZE: bytes 0 and 63 of another", s -> {
            s.with(Ops.SIZE, FREE, 63);
            s.bench.done(1, 1, new int[] {Ops.WALK, 0, 2, Scene.DIR_NAME}, new int[] {Ops.WALK, 2, 2, Scene.INNER_NAME},
                new int[] {Ops.WALK, 2, 2, Scene.FREE_NAME});
            s.bench.done(1, 1, new int[] {Ops.LOCK, 2, 0, 0, SHARED}, new int[] {Ops.LOCK, 2, 63, 63, SHARED});
            s.refused(Ops.LOCKED, Ops.SIZE, FREE, 64);
            s.refused(Ops.LOCKED, Ops.SIZE, FREE, 0);
            s.valued(63, Ops.SIZE, FREE, 1);
        });
    }

    private static void lockRanges() {
        for (int[] r : NO_RANGES) {
            edge("LOCK: BAD (not 0 <= a <= b <= 63)", s -> s.refused(Ops.BAD, Ops.LOCK, FILE, r[0], r[1], SHARED));
            edge("UNLOCK: BAD (a, b as there)", s -> s.refused(Ops.BAD, Ops.UNLOCK, FILE, r[0], r[1], SHARED));
            edge("CLAIM: BAD (a, b)", s -> s.restarted().refused(Ops.BAD, Ops.CLAIM, FILE, r[0], r[1], SHARED));
        }
        for (int c : NO_SORTS) {
            edge("LOCK: BAD (c another)", s -> s.refused(Ops.BAD, Ops.LOCK, FILE, 2, 3, c));
            edge("CLAIM: BAD (c another)", s -> s.restarted().refused(Ops.BAD, Ops.CLAIM, FILE, 0, 0, c));
            edge("UNLOCK: c counts for nothing", s -> s.accepted(Ops.UNLOCK, FILE, 0, 0, c));
        }
        for (int sort : new int[] {SHARED, ALONE}) {
            for (int[] r : new int[][] {{0, 0}, {63, 63}, {0, 63}, {1, 62}, {0, 31}, {32, 63}}) {
                edge("LOCK: bytes a to b (both too)", s -> lockedRange(s, r[0], r[1], sort));
            }
        }
    }

    private static void lockedRange(Scene s, int first, int last, int sort) {
        s.valued(0, Ops.LOCK, FREE, first, last, sort);
        for (int place = 0; place < 64; place++) {
            int due = place >= first && place <= last ? sort : 0;
            check.due("lock on " + place, s.x.lock(0, Scene.FREE_NODE, place), due);
        }
        check.due("another's", s.x.lock(1, Scene.FREE_NODE, first), 0);
        check.due("another file's", s.x.lock(0, Scene.FILE_NODE, 63), 0);
    }

    private static void lockAgainstOthers() {
        edge("LOCK: shared where another shares", s -> s.valued(0, Ops.LOCK, FILE, 4, 4, SHARED));
        edge("LOCK: LOCKED, alone where another shares", s -> s.refused(Ops.LOCKED, Ops.LOCK, FILE, 4, 4, ALONE));
        edge("LOCK: LOCKED, shared where another is alone", s -> s.refused(Ops.LOCKED, Ops.LOCK, FILE, 6, 6, SHARED));
        edge("LOCK: LOCKED, alone where another is alone", s -> s.refused(Ops.LOCKED, Ops.LOCK, FILE, 6, 6, ALONE));
        edge("LOCK: LOCKED on the last of them", s -> s.refused(Ops.LOCKED, Ops.LOCK, FILE, 2, 4, ALONE));
        edge("LOCK: LOCKED on the first of them", s -> s.refused(Ops.LOCKED, Ops.LOCK, FILE, 12, 63, SHARED));
        edge("LOCK: LOCKED on one in the midst", s -> s.refused(Ops.LOCKED, Ops.LOCK, FILE, 0, 63, SHARED));
        edge("LOCK: up to another's", s -> s.valued(0, Ops.LOCK, FILE, 0, 3, ALONE));
        edge("LOCK: between others'", s -> s.valued(0, Ops.LOCK, FILE, 5, 5, ALONE));
        edge("LOCK: behind another's", s -> s.valued(0, Ops.LOCK, FILE, 13, 63, ALONE));
        edge("LOCK: shared over a shared one and free ones", s -> s.valued(0, Ops.LOCK, FILE, 2, 5, SHARED));
        edge("LOCK: BAD before LOCKED", s -> s.refused(Ops.BAD, Ops.LOCK, FILE, 6, 6, 3));
        edge("LOCK: on bytes that are not there", s -> s.valued(0, Ops.LOCK, FREE, 63, 63, ALONE));
    }

    private static void lockInPlaceOfOwn() {
        edge("LOCK: in place of its own ones, shared for alone", s -> {
            s.with(Ops.LOCK, FILE, 0, 0, SHARED);
            locks(s, 0, 0, 1, 1, 0);
            s.refused(Ops.LOST, Ops.HELD, FILE, 0, 1);
        });
        edge("LOCK: in place of its own ones, alone for shared", s -> {
            s.with(Ops.LOCK, FILE, 1, 1, ALONE);
            locks(s, 0, 0, 2, 2, 0);
            s.accepted(Ops.HELD, FILE, 1, 1);
        });
        edge("LOCK: in place of a part of them", s -> {
            s.with(Ops.LOCK, FREE, 10, 14, ALONE).with(Ops.LOCK, FREE, 12, 12, SHARED);
            int[] due = {0, 2, 2, 1, 2, 2, 0};
            for (int i = 0; i < due.length; i++) {
                check.due("lock on " + (9 + i), s.x.lock(0, Scene.FREE_NODE, 9 + i), due[i]);
            }
        });
        edge("LOCK: alone refused where it and another share", s -> {
            s.with(Ops.LOCK, FILE, 4, 4, SHARED);
            s.refused(Ops.LOCKED, Ops.LOCK, FILE, 4, 4, ALONE);
        });
    }

    private static void unlock() {
        edge("UNLOCK: the client's locks on bytes a to b are gone", s -> {
            s.valued(0, Ops.UNLOCK, FILE, 0, 0);
            locks(s, 0, 0, 0, 1);
        });
        edge("UNLOCK: bytes a to b (both), none beside", s -> {
            s.with(Ops.LOCK, FILE, 13, 20, ALONE);
            s.valued(0, Ops.UNLOCK, FILE, 15, 17);
            locks(s, 0, 12, 0, 2, 2, 0, 0, 0, 2, 2, 2, 0);
        });
        edge("UNLOCK: all bytes, but another's locks", s -> {
            s.valued(0, Ops.UNLOCK, FILE, 0, 63);
            locks(s, 0, 0, 0, 0);
            locks(s, 1, 4, 1, 0, 2);
        });
        edge("UNLOCK: where there is none", s -> {
            s.with(Ops.UNLOCK, FILE, 0, 63);
            s.valued(0, Ops.UNLOCK, FILE, 0, 63);
        });
        edge("UNLOCK: not former ones", s -> {
            s.restarted().valued(0, Ops.UNLOCK, FILE, 0, 63);
            locks(s, 0, 0, 6, 5, 0);
        });
        edge("UNLOCK: the lease stays", s -> {
            s.x.time(10);
            s.with(Ops.UNLOCK, FILE, 0, 63);
            check.due("lease", s.x.lease(0), 29990);
        });
    }

    private static void renew() {
        edge("RENEW: the client's lease ends 30000 later than now", s -> {
            s.x.time(29999);
            check.due("before", s.x.lease(0), 1);
            s.valued(0, Ops.RENEW, 7);
            check.due("lease", s.x.lease(0), 30000);
            check.due("another's", s.x.lease(1), 1);
            s.x.time(29999);
            locks(s, 0, 0, 2, 1);
            s.x.time(1);
            locks(s, 0, 0, 0, 0);
        });
        edge("RENEW: locks whose lease has ended stay gone", s -> {
            s.x.time(30000);
            s.valued(0, Ops.RENEW, 7);
            check.due("lease", s.x.lease(0), 30000);
            locks(s, 0, 0, 0, 0);
        });
        edge("RENEW: a client that had no lease", s -> {
            check.due("before", s.x.lease(3), 0);
            check.due("code", s.bench.one(3, 0, Ops.RENEW, 0), Ops.OK);
            check.due("lease", s.x.lease(3), 30000);
        });
        edge("RENEW: h counts for nothing but BAD", s -> {
            s.x.time(1);
            s.refused(Ops.BAD, Ops.RENEW, 8);
            s.valued(0, Ops.RENEW, Scene.GONE, MIN, MAX, -1);
            s.valued(0, Ops.RENEW, Scene.DIR);
        });
        edge("RENEW: in the time of grace, former locks stay former", s -> {
            s.restarted().valued(0, Ops.RENEW, 0);
            check.due("lease", s.x.lease(0), 30000);
            locks(s, 0, 0, 6, 5);
        });
    }

    private static void leaseOfLocks() {
        edge("LOCK: its LEASE ends 30000 later than now", s -> {
            s.x.time(12345);
            check.due("before", s.x.lease(0), 17655);
            s.with(Ops.LOCK, FILE, 2, 2, SHARED);
            check.due("lease", s.x.lease(0), 30000);
            s.x.time(17655);
            locks(s, 0, 0, 2, 1, 1);
            check.due("another's has ended", s.x.lock(1, NODE, 6), 0);
        });
        edge("LOCK: a refused one leaves the lease", s -> {
            s.x.time(12345);
            s.refused(Ops.LOCKED, Ops.LOCK, FILE, 6, 6, SHARED);
            s.refused(Ops.BAD, Ops.LOCK, FILE, 2, 64, SHARED);
            check.due("lease", s.x.lease(0), 17655);
        });
        edge("LOCK: a lock after the lease has ended brings no others back", s -> {
            s.x.time(30000);
            s.with(Ops.LOCK, FILE, 2, 2, SHARED);
            locks(s, 0, 0, 0, 0, 1);
        });
    }

    private static void leaseEnds() {
        edge("A client's locks are gone when its lease has ended: not before", s -> {
            s.x.time(29999);
            locks(s, 0, 0, 2, 1);
            locks(s, 1, 4, 1, 0, 2);
            check.due("lease", s.x.lease(0), 1);
            s.refused(Ops.LOCKED, Ops.READ, FILE, 6);
        });
        edge("A client's locks are gone when its lease has ended (now is not less than its end)", s -> {
            s.x.time(30000);
            locks(s, 0, 0, 0, 0);
            locks(s, 1, 4, 0, 0, 0);
            check.due("lease", s.x.lease(0), 0);
            s.valued(0, Ops.READ, FILE, 6);
            s.valued(10, Ops.WRITE, FILE, 4, 1);
            s.valued(0, Ops.LOCK, FILE, 0, 63, ALONE);
        });
        edge("A lease that ended long ago has nothing left", s -> {
            s.x.time(100000);
            check.due("lease", s.x.lease(0), 0);
            s.x.time(100000);
            check.due("lease", s.x.lease(0), 0);
        });
        edge("Leases end one by one", s -> {
            s.x.time(1);
            s.with(Ops.RENEW, 0);
            s.x.time(29999);
            locks(s, 0, 0, 2, 1);
            locks(s, 1, 4, 0, 0, 0);
        });
    }

    private static void former() {
        edge("locks that there were when it stopped are FORMER", s -> {
            s.restarted();
            locks(s, 0, 0, 6, 5, 0);
            locks(s, 1, 3, 0, 5, 0, 6);
        });
        edge("leases have ended", s -> {
            s.restarted();
            check.due("lease", s.x.lease(0) + s.x.lease(1), 0);
        });
        edge("(by the time then): there one before the lease's end", s -> {
            s.x.time(29999);
            s.x.stop(Ops.NONE);
            s.x.time(100000);
            s.x.boot();
            locks(s, 0, 0, 6, 5);
        });
        edge("(by the time then): gone at the lease's end", s -> {
            s.x.time(30000);
            s.restarted();
            locks(s, 0, 0, 0, 0);
        });
        edge("a lock that was unlocked is not former", s -> {
            s.with(Ops.UNLOCK, FILE, 0, 0).restarted();
            locks(s, 0, 0, 0, 5);
        });
        edge("a lock is former by its last sort", s -> {
            s.with(Ops.LOCK, FILE, 0, 0, SHARED).with(Ops.LOCK, FILE, 1, 1, ALONE).restarted();
            locks(s, 0, 0, 5, 6);
        });
    }

    private static void formerKeepOthersOff() {
        String words = "In the time of grace former locks keep others off like locks: ";
        edge(words + "READ, alone", s -> s.restarted().refused(Ops.LOCKED, Ops.READ, FILE, 6));
        edge(words + "READ, shared", s -> s.restarted().valued(0, Ops.READ, FILE, 4));
        edge(words + "WRITE, alone", s -> s.restarted().refused(Ops.LOCKED, Ops.WRITE, FILE, 6, 1));
        edge(words + "WRITE, shared", s -> s.restarted().refused(Ops.LOCKED, Ops.WRITE, FILE, 4, 1));
        edge(words + "SIZE, goes", s -> s.restarted().refused(Ops.LOCKED, Ops.SIZE, FILE, 6));
        edge(words + "SIZE, comes", s -> s.restarted().refused(Ops.LOCKED, Ops.SIZE, FILE, 13));
        edge(words + "SIZE, stays", s -> s.restarted().valued(10, Ops.SIZE, FILE, 12));
        edge(words + "others, not itself", s -> {
            s.restarted().valued(10, Ops.WRITE, FILE, 0, 1);
            s.valued(10, Ops.WRITE, FILE, 1, 1);
            s.valued(1, Ops.READ, FILE, 0);
        });
        edge(words + "to its last instant", s -> {
            s.restarted().x.time(29999);
            s.refused(Ops.LOCKED, Ops.READ, FILE, 6);
            s.refused(Ops.LOCKED, Ops.WRITE, FILE, 4, 1);
        });
        edge(words + "not behind it", s -> {
            s.restarted().x.time(30000);
            s.valued(0, Ops.READ, FILE, 6);
            s.valued(10, Ops.WRITE, FILE, 4, 1);
            s.valued(10, Ops.SIZE, FILE, 0);
        });
    }

    private static void grace() {
        edge("no grace in a new object", s -> s.accepted(Ops.LOCK, FREE, 0, 63, ALONE));
        edge("LOCK: GRACE in the time of grace", s -> s.restarted().refused(Ops.GRACE, Ops.LOCK, FREE, 0, 0, SHARED));
        edge("LOCK: GRACE on its own former lock", s -> s.restarted().refused(Ops.GRACE, Ops.LOCK, FILE, 0, 0, ALONE));
        edge("LOCK: GRACE before LOCKED", s -> s.restarted().refused(Ops.GRACE, Ops.LOCK, FILE, 6, 6, ALONE));
        edge("LOCK: BAD before GRACE, a and b", s -> s.restarted().refused(Ops.BAD, Ops.LOCK, FREE, 1, 0, SHARED));
        edge("LOCK: BAD before GRACE, c", s -> s.restarted().refused(Ops.BAD, Ops.LOCK, FREE, 0, 0, 0));
        edge("for 30000 from now there is GRACE: its last instant", s -> {
            s.restarted().x.time(29999);
            s.refused(Ops.GRACE, Ops.LOCK, FREE, 0, 0, SHARED);
        });
        edge("for 30000 from now there is GRACE: no longer", s -> {
            s.restarted().x.time(30000);
            s.accepted(Ops.LOCK, FREE, 0, 0, SHARED);
        });
        edge("from now: when it begins anew, not when it stopped", s -> {
            s.x.time(10);
            s.x.stop(Ops.NONE);
            s.x.time(50000);
            s.x.boot();
            s.x.time(29999);
            s.refused(Ops.GRACE, Ops.LOCK, FREE, 0, 0, SHARED);
            s.x.time(1);
            s.accepted(Ops.LOCK, FREE, 0, 0, SHARED);
        });
    }

    private static void claim() {
        edge("CLAIM: as LOCK, alone", s -> {
            s.restarted().valued(0, Ops.CLAIM, FILE, 0, 0, ALONE);
            locks(s, 0, 0, 2, 5);
        });
        edge("CLAIM: as LOCK, shared", s -> {
            s.restarted().valued(0, Ops.CLAIM, FILE, 1, 1, SHARED);
            locks(s, 0, 0, 6, 1);
        });
        edge("CLAIM: the lease ends 30000 later than now", s -> {
            s.restarted().x.time(29999);
            s.accepted(Ops.CLAIM, FILE, 0, 0, ALONE);
            check.due("lease", s.x.lease(0), 30000);
            s.x.time(29999);
            locks(s, 0, 0, 2, 0);
            s.x.time(1);
            locks(s, 0, 0, 0, 0);
        });
        edge("CLAIM: bytes 0 to 63", s -> {
            s.with(Ops.LOCK, FREE, 0, 63, SHARED).restarted();
            s.valued(0, Ops.CLAIM, FREE, 0, 63, SHARED);
            check.due("first", s.x.lock(0, Scene.FREE_NODE, 0), SHARED);
            check.due("last", s.x.lock(0, Scene.FREE_NODE, 63), SHARED);
        });
        edge("CLAIM: a part of what was locked at once", s -> {
            s.with(Ops.LOCK, FREE, 0, 63, ALONE).restarted();
            s.valued(0, Ops.CLAIM, FREE, 63, 63, ALONE);
            check.due("62", s.x.lock(0, Scene.FREE_NODE, 62), Ops.FORMER_ALONE);
            check.due("63", s.x.lock(0, Scene.FREE_NODE, 63), ALONE);
        });
        edge("CLAIM: one range of what was locked in two", s -> {
            s.with(Ops.LOCK, FREE, 0, 7, ALONE).with(Ops.LOCK, FREE, 8, 20, ALONE).restarted();
            s.valued(0, Ops.CLAIM, FREE, 5, 10, ALONE);
        });
        edge("CLAIM: these are former no more then", s -> {
            s.restarted().with(Ops.CLAIM, FILE, 0, 0, ALONE);
            s.refused(Ops.LOST, Ops.CLAIM, FILE, 0, 0, ALONE);
            s.with(Ops.UNLOCK, FILE, 0, 0);
            locks(s, 0, 0, 0, 5);
            s.refused(Ops.LOST, Ops.CLAIM, FILE, 0, 0, ALONE);
        });
        edge("CLAIM: they outlive the time of grace", s -> {
            s.restarted().x.time(1);
            s.accepted(Ops.CLAIM, FILE, 0, 0, ALONE);
            s.x.time(29999);
            locks(s, 0, 0, 2, 0);
        });
    }

    private static void claimRefused() {
        edge("CLAIM: LOST without a stop", s -> s.refused(Ops.LOST, Ops.CLAIM, FILE, 0, 0, ALONE));
        edge("CLAIM: LOST, of the other sort: alone", s -> s.restarted().refused(Ops.LOST, Ops.CLAIM, FILE, 1, 1, ALONE));
        edge("CLAIM: LOST, of the other sort: shared", s -> s.restarted().refused(Ops.LOST, Ops.CLAIM, FILE, 0, 0, SHARED));
        edge("CLAIM: LOST, one of them is of the other sort", s -> s.restarted().refused(Ops.LOST, Ops.CLAIM, FILE, 0, 1, SHARED));
        edge("CLAIM: LOST, one of them too many", s -> s.restarted().refused(Ops.LOST, Ops.CLAIM, FILE, 1, 2, SHARED));
        edge("CLAIM: LOST, none", s -> s.restarted().refused(Ops.LOST, Ops.CLAIM, FILE, 2, 2, SHARED));
        edge("CLAIM: LOST, another client's", s -> s.restarted().refused(Ops.LOST, Ops.CLAIM, FILE, 6, 6, ALONE));
        edge("CLAIM: LOST, on another file", s -> s.restarted().refused(Ops.LOST, Ops.CLAIM, FREE, 0, 0, ALONE));
        edge("CLAIM: LOST, all bytes", s -> s.restarted().refused(Ops.LOST, Ops.CLAIM, FILE, 0, 63, SHARED));
        edge("CLAIM: LOST when grace has ended", s -> {
            s.restarted().x.time(30000);
            s.refused(Ops.LOST, Ops.CLAIM, FILE, 0, 0, ALONE);
        });
        edge("CLAIM: LOST for the client's next life", s -> {
            s.restarted().x.start(0);
            s.bench.done(0, 0, new int[] {Ops.ROOT, 0}, new int[] {Ops.WALK, 0, FILE, Scene.FILE_NAME});
            s.refused(Ops.LOST, Ops.CLAIM, FILE, 0, 0, ALONE);
        });
    }

    private static void graceEnds() {
        edge("former locks are gone when it ends: not before", s -> {
            s.restarted().x.time(29999);
            locks(s, 0, 0, 6, 5);
        });
        edge("former locks are gone when it ends", s -> {
            s.restarted().x.time(30000);
            locks(s, 0, 0, 0, 0);
            locks(s, 1, 4, 0, 0, 0);
        });
        edge("when it ends, locks that are no former ones stay", s -> {
            s.restarted().x.time(15000);
            s.accepted(Ops.CLAIM, FILE, 0, 0, ALONE);
            s.x.time(15000);
            locks(s, 0, 0, 2, 0);
            s.refused(Ops.LOST, Ops.HELD, FILE, 1, 1);
            s.accepted(Ops.HELD, FILE, 0, 1);
        });
        edge("a claimed lock is former again when the server stops and begins anew", s -> {
            s.restarted().with(Ops.CLAIM, FILE, 0, 0, ALONE);
            s.x.stop(Ops.NONE);
            s.x.time(5);
            s.x.boot();
            locks(s, 0, 0, 6, 5);
            s.x.time(29999);
            locks(s, 0, 0, 6, 5);
        });
    }

    private static void stopsInARow() {
        edge("those that were former then, are FORMER", s -> {
            s.restarted().x.time(29999);
            s.restarted();
            locks(s, 0, 0, 6, 5);
            locks(s, 1, 4, 5, 0, 6);
            s.x.time(29999);
            locks(s, 0, 0, 6, 5);
            s.x.time(1);
            locks(s, 0, 0, 0, 0);
        });
        edge("those that were former then: by the time then", s -> {
            s.restarted().x.time(29999);
            s.x.stop(Ops.NONE);
            s.x.time(100000);
            s.x.boot();
            locks(s, 0, 0, 6, 5);
        });
        edge("those whose grace had ended then are gone", s -> {
            s.restarted().x.time(30000);
            s.restarted();
            locks(s, 0, 0, 0, 0);
        });
        edge("a claimed lock, and one that was not, over a stop", s -> {
            s.restarted().with(Ops.CLAIM, FILE, 1, 1, SHARED).restarted();
            locks(s, 0, 0, 6, 5);
            s.valued(0, Ops.CLAIM, FILE, 0, 0, ALONE);
            s.valued(0, Ops.CLAIM, FILE, 1, 1, SHARED);
        });
    }
}
