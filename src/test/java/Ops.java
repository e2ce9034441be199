/** The steps' numbers, the codes by short names, and the ints at the ends. */
final class Ops {
    static final int ROOT = 0, WALK = 1, MAKE = 2, REMOVE = 3, MOVE = 4, READ = 5, WRITE = 6, HELD = 7, SIZE = 8;
    static final int LIST = 9, LOCK = 10, UNLOCK = 11, RENEW = 12, CLAIM = 13;
    static final int NONE = SlotServer.NONE, WAITING = SlotServer.WAITING;
    static final int OK = SlotServer.OK, STALE = SlotServer.STALE, ABSENT = SlotServer.ABSENT;
    static final int EXISTS = SlotServer.EXISTS, KIND = SlotServer.KIND, FULL = SlotServer.FULL, BAD = SlotServer.BAD;
    static final int NOT_EMPTY = SlotServer.NOT_EMPTY, CIRCLE = SlotServer.CIRCLE, LOCKED = SlotServer.LOCKED;
    static final int LOST = SlotServer.LOST, GRACE = SlotServer.GRACE;
    static final int SHARED = 1, ALONE = 2, FORMER_SHARED = 5, FORMER_ALONE = 6;
    static final int NO_AVAIL = 0, DONE = 1, AGAIN = 2, TORN = 3;
    static final int MIN = Integer.MIN_VALUE, MAX = Integer.MAX_VALUE;

    private Ops() {
    }
}
