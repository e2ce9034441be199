/** Promise 5 (carry), with what the server knows: lives, slots, calls done once and answered again. */
public final class CarryTest {
    private static final int NO_AVAIL = 0, DONE = 1, AGAIN = 2;
    private static final Check check = new Check();

    public static void main(String[] args) {
        wrongDatagrams();
        onceDone();
        inOrderOfASlot();
        slotsAreApart();
        oldLives();
        livesThatTheServerNeverSaw();
        newLifeTakesAll();
        stoppedAtTheFirstRefusal();
        whenTheServerDoesNotRun();
        check.end();
    }

    private static int[] s(int... step) {
        return step;
    }

    private static void wrongDatagrams() {
        Bench bench = new Bench();
        SlotServer x = bench.x;
        check.illegalArgument("none was sent", () -> x.carry(0, false));
        int d = bench.sent(0, 0, s(0));
        check.illegalArgument("-1", () -> x.carry(-1, false));
        check.illegalArgument("one too many", () -> x.carry(1, true));
        x.stop(SlotServer.NONE);
        check.illegalArgument("also when the server does not run", () -> x.carry(1, true));
        x.boot();
        check.due("the one", x.carry(d, false), DONE);
    }

    private static void onceDone() {
        Bench bench = new Bench();
        SlotServer x = bench.x;
        int d = bench.sent(0, 0, s(0), s(2, 0, 0, 7), s(2, 0, 0, 8));
        check.due("done", x.carry(d, true), DONE);
        check.due("nodes", x.nodes(), 3);
        check.due("again, lost", x.carry(d, true), AGAIN);
        check.due("again", x.carry(d, false), AGAIN);
        check.due("and again", x.carry(d, false), AGAIN);
        check.due("nodes as before", x.nodes(), 3);
        check.due("the answer as before", x.code(0, 0, 1), SlotServer.OK);
        check.due("its value as before", x.value(0, 0, 2), 2);
    }

    private static void inOrderOfASlot() {
        Bench bench = new Bench();
        SlotServer x = bench.x;
        int first = bench.sent(0, 0, s(0), s(2, 0, 0, 1));
        x.carry(first, false);
        int second = bench.sent(0, 0, s(2, 0, 0, 2));
        check.due("the first again before the second", x.carry(first, false), AGAIN);
        x.carry(second, false);
        check.due("the first is of no avail behind the second", x.carry(first, false), NO_AVAIL);
        check.due("the second again", x.carry(second, false), AGAIN);
        int third = bench.sent(0, 0, s(3, 0, 0, 2));
        x.carry(third, true);
        check.due("the second is of no avail behind the third", x.carry(second, false), NO_AVAIL);
        check.due("what it made stays gone", x.nodes(), 2);
        check.due("its client still waits", x.code(0, 0, 0), SlotServer.WAITING);
    }

    private static void slotsAreApart() {
        Bench bench = new Bench();
        SlotServer x = bench.x;
        int inTwo = bench.sent(1, 2, s(0, 0));
        int inOne = bench.sent(1, 1, s(0, 1));
        int inZero = bench.sent(1, 0, s(0, 2));
        check.due("the last first", x.carry(inZero, false), DONE);
        check.due("then the second", x.carry(inOne, false), DONE);
        check.due("then the first", x.carry(inTwo, false), DONE);
        int inTwoAgain = bench.sent(1, 2, s(5, 0));
        check.due("another in slot 2", x.carry(inTwoAgain, false), DONE);
        check.due("slot 1 is untouched", x.carry(inOne, false), AGAIN);
        check.due("slot 0 is untouched", x.carry(inZero, false), AGAIN);
        check.due("slot 2 is further", x.carry(inTwo, false), NO_AVAIL);
    }

    private static void oldLives() {
        Bench bench = new Bench();
        SlotServer x = bench.x;
        int old = bench.sent(0, 0, s(0), s(2, 0, 0, 1));
        x.carry(old, false);
        int open = bench.sent(0, 1, s(2, 0, 0, 2));
        x.start(0);
        check.due("the server doesn't know of the new life yet", x.carry(old, false), AGAIN);
        int fresh = bench.sent(0, 2, s(0, 7));
        check.due("of a new life", x.carry(fresh, false), DONE);
        check.due("the old life is of no avail", x.carry(old, false), NO_AVAIL);
        check.due("also its call that never came", x.carry(open, false), NO_AVAIL);
        check.due("nodes stay", x.nodes(), 2);
    }

    /** A call with the number 2 is sent only when the first one of its life was answered, so its life is known then. */
    private static void livesThatTheServerNeverSaw() {
        Bench bench = new Bench();
        SlotServer x = bench.x;
        int first = bench.sent(0, 0, s(0, 1));
        x.carry(first, false);
        int second = bench.sent(0, 0, s(0, 2));
        x.start(0);
        int ofLifeTwo = bench.sent(0, 0, s(0, 4));
        x.start(0);
        int ofLifeThree = bench.sent(0, 0, s(0, 3));
        check.due("life 3 comes before the others", x.carry(ofLifeThree, false), DONE);
        check.due("life 2 is too old", x.carry(ofLifeTwo, false), NO_AVAIL);
        check.due("the second of life 1 is too old", x.carry(second, false), NO_AVAIL);
        check.due("and the first", x.carry(first, false), NO_AVAIL);
        int[] due = {SlotServer.NONE, SlotServer.NONE, SlotServer.NONE, 0, SlotServer.NONE};
        for (int h = 0; h < due.length; h++) {
            check.due("handle " + h, x.handle(0, h), due[h]);
        }
    }

    private static void newLifeTakesAll() {
        Bench bench = new Bench();
        SlotServer x = bench.x;
        bench.openFile(0);
        bench.openFile(1);
        bench.done(0, 1, s(10, 1, 0, 3, 2), s(6, 1, 0, 77));
        bench.done(1, 1, s(10, 1, 5, 5, 2));
        check.due("locked", x.lock(0, 1, 3), 2);
        x.start(0);
        check.due("start alone takes nothing from the server", x.lock(0, 1, 3), 2);
        check.due("nor the lease", x.lease(0), 30000);
        check.due("nor the handles", x.handle(0, 1), 1);
        check.due("the new life's call", bench.done(0, 2, s(5, 1, 0)), DONE);
        check.due("its handles are gone when it is done", x.code(0, 2, 0), SlotServer.STALE);
        check.due("the lock is gone", x.lock(0, 1, 3), 0);
        check.due("the lease is gone", x.lease(0), 0);
        check.due("handle 0 is gone", x.handle(0, 0), SlotServer.NONE);
        check.due("handle 1 is gone", x.handle(0, 1), SlotServer.NONE);
        check.due("another client's lock stays", x.lock(1, 1, 5), 2);
        check.due("and its handle", x.handle(1, 1), 1);
        check.due("and its lease", x.lease(1), 30000);
        check.due("slot 0 begins with number 1", bench.done(0, 0, s(0)), DONE);
        check.due("slot 1 begins with number 1", bench.done(0, 1, s(0)), DONE);
        newLifeTakesFormerLocks();
    }

    private static void newLifeTakesFormerLocks() {
        Bench bench = new Bench();
        SlotServer x = bench.x;
        bench.openFile(0);
        bench.done(0, 1, s(10, 1, 0, 3, 1));
        x.stop(SlotServer.NONE);
        x.boot();
        check.due("former", x.lock(0, 1, 3), 5);
        x.start(0);
        bench.done(0, 0, s(0), s(1, 0, 1, 5), s(13, 1, 0, 0, 1));
        check.due("gone with the old life", x.lock(0, 1, 3), 0);
        check.due("so it can't be claimed", x.code(0, 0, 2), SlotServer.LOST);
    }

    private static void stoppedAtTheFirstRefusal() {
        Bench bench = new Bench();
        SlotServer x = bench.x;
        bench.done(0, 0, s(0), s(2, 0, 0, 1), s(2, 0, 0, 1), s(2, 0, 0, 2));
        check.due("the third is refused", x.code(0, 0, 2), SlotServer.EXISTS);
        check.due("the fourth was not done", x.code(0, 0, 3), SlotServer.NONE);
        check.due("what was done before stays", x.nodes(), 2);
    }

    private static void whenTheServerDoesNotRun() {
        Bench bench = new Bench();
        SlotServer x = bench.x;
        int d = bench.sent(0, 0, s(0));
        x.stop(SlotServer.NONE);
        check.due("no avail", x.carry(d, false), NO_AVAIL);
        check.due("waiting", x.code(0, 0, 0), SlotServer.WAITING);
        x.boot();
        check.due("done", x.carry(d, false), DONE);
        x.stop(SlotServer.NONE);
        check.due("not answered again", x.carry(d, false), NO_AVAIL);
        x.boot();
        check.due("answered again", x.carry(d, false), AGAIN);
    }
}
