/** Steps on nodes, handles and bytes, and promises 12 (nodes), 13 (node) and 14 (handle). */
public final class TreeTest {
    private static final int NONE = SlotServer.NONE;
    private static final int OK = SlotServer.OK, STALE = SlotServer.STALE, ABSENT = SlotServer.ABSENT;
    private static final int EXISTS = SlotServer.EXISTS, KIND = SlotServer.KIND, FULL = SlotServer.FULL;
    private static final int BAD = SlotServer.BAD, NOT_EMPTY = SlotServer.NOT_EMPTY, CIRCLE = SlotServer.CIRCLE;
    private static final int ROOT = 0, WALK = 1, MAKE = 2, REMOVE = 3, MOVE = 4, READ = 5, WRITE = 6, HELD = 7;
    private static final int SIZE = 8, LIST = 9, LOCK = 10, UNLOCK = 11, RENEW = 12, CLAIM = 13;
    private static final int MIN = Integer.MIN_VALUE, MAX = Integer.MAX_VALUE;
    private static final Check check = new Check();

    public static void main(String[] args) {
        wrongQuestions();
        handlesBeforeAll();
        kinds();
        walking();
        making();
        fullTree();
        removing();
        numbersComeAgain();
        moving();
        movingInOrderOfConditions();
        reading();
        writing();
        resizing();
        listing();
        check.end();
    }

    /** Handles of client 0: 0 the root, 1 file "1" (node 1), 2 directory "2" (node 2), 3 unbound. */
    private static Bench bench() {
        Bench bench = new Bench();
        bench.done(0, 0, s(ROOT, 0), s(MAKE, 0, 0, 1), s(MAKE, 0, 1, 2), s(WALK, 0, 1, 1));
        bench.done(0, 0, s(WALK, 0, 2, 2));
        return bench;
    }

    private static int[] s(int... step) {
        return step;
    }

    private static void wrongQuestions() {
        SlotServer x = bench().x;
        check.illegalArgument("node -1", () -> x.node(-1, 0));
        check.illegalArgument("node 32", () -> x.node(32, 0));
        check.illegalArgument("what -1", () -> x.node(0, -1));
        check.illegalArgument("what 4", () -> x.node(0, 4));
        check.illegalArgument("handle of client -1", () -> x.handle(-1, 0));
        check.illegalArgument("handle of client 4", () -> x.handle(4, 0));
        check.illegalArgument("handle -1", () -> x.handle(0, -1));
        check.illegalArgument("handle 8", () -> x.handle(0, 8));
        check.throwsNothing("handle 7", () -> x.handle(3, 7));
        check.throwsNothing("node 31", () -> x.node(31, 3));
    }

    private static void handlesBeforeAll() {
        for (int op = 0; op <= 13; op++) {
            Bench bench = bench();
            check.due("op " + op + " with handle -1", bench.one(0, 0, op, -1, -1, 0, 0), BAD);
            check.due("op " + op + " with handle 8", bench.one(0, 0, op, 8, -1, 0, 0), BAD);
            check.due("op " + op + " with handle MIN", bench.one(0, 0, op, MIN, -1, 0, 0), BAD);
            boolean needsNone = op == ROOT || op == RENEW;
            check.due("op " + op + " with one unbound", bench.one(0, 0, op, 3, -1, 0, 0), needsNone ? OK : STALE);
            check.due("op " + op + " of another client", bench.one(1, 0, op, 2, -1, 0, 0), needsNone ? OK : STALE);
            check.due("its value", bench.x.value(1, 0, 0), 0);
        }
        Bench bench = bench();
        check.due("ROOT binds", bench.valueOf(0, 0, ROOT, 7, 99, 99, 99), 0);
        check.due("handle 7", bench.x.handle(0, 7), 0);
        check.due("handle 6", bench.x.handle(0, 6), NONE);
        check.due("ROOT binds what was bound", bench.one(0, 0, ROOT, 1), OK);
        check.due("handle 1", bench.x.handle(0, 1), 0);
        check.due("handles of another client", bench.x.handle(1, 1), NONE);
    }

    private static void kinds() {
        int[] onDirectories = {WALK, MAKE, REMOVE, LIST};
        int[] onFiles = {READ, WRITE, HELD, SIZE, LOCK, UNLOCK, CLAIM};
        Bench bench = bench();
        for (int op : onDirectories) {
            check.due("op " + op + " on a file", bench.one(0, 0, op, 1, -1, 0, 0), KIND);
        }
        for (int op : onFiles) {
            check.due("op " + op + " on a directory", bench.one(0, 0, op, 2, -1, -1, 0), KIND);
            check.due("op " + op + " on the root", bench.one(0, 0, op, 0, -1, -1, 0), KIND);
        }
        check.due("RENEW on a directory", bench.one(0, 0, RENEW, 2), OK);
    }

    private static void walking() {
        Bench bench = bench();
        check.due("a is -1", bench.one(0, 0, WALK, 0, -1, 77), BAD);
        check.due("a is 8", bench.one(0, 0, WALK, 0, 8, 1), BAD);
        check.due("no such name", bench.one(0, 0, WALK, 0, 1, 77), ABSENT);
        check.due("handle 1 as before", bench.x.handle(0, 1), 1);
        check.due("no name 0", bench.one(0, 0, WALK, 0, 1, 0), ABSENT);
        check.due("no name in an empty one", bench.one(0, 0, WALK, 2, 1, 1), ABSENT);
        check.due("its number", bench.valueOf(0, 0, WALK, 0, 7, 2), 2);
        check.due("bound", bench.x.handle(0, 7), 2);
        check.due("a handle walks itself", bench.valueOf(0, 0, WALK, 0, 0, 1), 1);
        check.due("it is the file now", bench.x.handle(0, 0), 1);
        check.due("and no directory", bench.one(0, 0, WALK, 0, 0, 1), KIND);
    }

    private static void making() {
        Bench bench = bench();
        SlotServer x = bench.x;
        check.due("a is 2", bench.one(0, 0, MAKE, 0, 2, 5), BAD);
        check.due("a is -1", bench.one(0, 0, MAKE, 0, -1, 5), BAD);
        check.due("b is 0", bench.one(0, 0, MAKE, 0, 0, 0), BAD);
        check.due("a file's name", bench.one(0, 0, MAKE, 0, 1, 1), EXISTS);
        check.due("a directory's name", bench.one(0, 0, MAKE, 0, 0, 2), EXISTS);
        check.due("nodes", x.nodes(), 3);
        check.due("the same name in another", bench.valueOf(0, 0, MAKE, 2, 1, 1), 3);
        check.due("a name below 0", bench.valueOf(0, 0, MAKE, 2, 0, -1), 4);
        check.due("nodes", x.nodes(), 5);
        int[][] due = {{1, NONE, 0, 0}, {0, 0, 1, 0}, {1, 0, 2, 0}, {1, 2, 1, 0}, {0, 2, -1, 0}, {NONE, NONE, 0, 0}};
        for (int node = 0; node < due.length; node++) {
            for (int what = 0; what < 4; what++) {
                check.due("node " + node + ", " + what, x.node(node, what), due[node][what]);
            }
        }
    }

    private static void fullTree() {
        Bench bench = bench();
        for (int name = 3; name <= 31; name++) {
            check.due("made", bench.valueOf(0, 0, MAKE, 0, name % 2, name), name);
        }
        check.due("full", bench.one(0, 0, MAKE, 0, 0, 32), FULL);
        check.due("full, in another", bench.one(0, 0, MAKE, 2, 0, 1), FULL);
        check.due("EXISTS before FULL", bench.one(0, 0, MAKE, 0, 0, 31), EXISTS);
        check.due("BAD before FULL", bench.one(0, 0, MAKE, 0, 2, 32), BAD);
        check.due("nodes", bench.x.nodes(), 32);
        check.due("the last", bench.x.node(31, 2), 31);
        check.due("the greatest name", bench.valueOf(0, 0, LIST, 0, 30), 31);
        check.due("no more", bench.one(0, 0, LIST, 0, 31), ABSENT);
        check.due("one goes", bench.valueOf(0, 0, REMOVE, 0, 0, 17), 17);
        check.due("and one comes in its stead", bench.valueOf(0, 0, MAKE, 2, 0, 1), 17);
        check.due("full again", bench.one(0, 0, MAKE, 2, 0, 2), FULL);
    }

    private static void removing() {
        Bench bench = bench();
        SlotServer x = bench.x;
        check.due("no such name", bench.one(0, 0, REMOVE, 0, 0, 3), ABSENT);
        check.due("no name 0", bench.one(0, 0, REMOVE, 0, 0, 0), ABSENT);
        check.due("in an empty one", bench.one(0, 0, REMOVE, 2, 0, 1), ABSENT);
        bench.done(0, 0, s(MAKE, 2, 0, 1));
        check.due("something is in it", bench.one(0, 0, REMOVE, 0, 0, 2), NOT_EMPTY);
        check.due("a file in it", bench.valueOf(0, 0, REMOVE, 2, 9, 1, 9), 3);
        check.due("the empty one", bench.valueOf(0, 0, REMOVE, 0, 0, 2), 2);
        check.due("its handle", x.handle(0, 2), NONE);
        check.due("is stale", bench.one(0, 0, LIST, 2, 0), STALE);
        check.due("nodes", x.nodes(), 2);
        check.due("kind", x.node(2, 0), NONE);
        check.due("in none", x.node(2, 1), NONE);
        check.due("no name", x.node(2, 2), 0);
        check.due("no bytes", x.node(2, 3), 0);
    }

    private static void numbersComeAgain() {
        Bench bench = bench();
        SlotServer x = bench.x;
        bench.done(1, 0, s(ROOT, 5), s(WALK, 5, 6, 1), s(WRITE, 6, 9, 200));
        bench.done(0, 0, s(REMOVE, 0, 0, 1), s(MAKE, 0, 0, 1), s(READ, 1, 0));
        check.due("the same number", x.value(0, 0, 1), 1);
        check.due("but another one: stale", x.code(0, 0, 2), STALE);
        check.due("for another client too", x.handle(1, 6), NONE);
        check.due("stale there too", bench.one(1, 0, READ, 6, 0), STALE);
        check.due("no bytes of the old one", x.node(1, 3), 0);
        bench.done(0, 0, s(WALK, 0, 1, 1), s(SIZE, 1, 64), s(READ, 1, 9));
        check.due("nor behind its end", x.value(0, 0, 2), 0);
        check.due("a handle that is bound anew", x.handle(0, 1), 1);
        bench.done(0, 0, s(MAKE, 0, 1, 9), s(REMOVE, 0, 0, 2), s(REMOVE, 0, 0, 1));
        check.due("the least number that none has", bench.valueOf(0, 0, MAKE, 0, 0, 50), 1);
        check.due("and then the next", bench.valueOf(0, 0, MAKE, 0, 0, 51), 2);
        check.due("and then the next behind", bench.valueOf(0, 0, MAKE, 0, 0, 52), 4);
    }

    private static void moving() {
        Bench bench = bench();
        SlotServer x = bench.x;
        bench.done(0, 0, s(MAKE, 2, 1, 3), s(WALK, 2, 3, 3), s(MAKE, 3, 0, 4));
        check.due("a file into a directory", bench.valueOf(0, 0, MOVE, 0, 2, 1, 9), 1);
        check.due("where it is", x.node(1, 1), 2);
        check.due("its name", x.node(1, 2), 9);
        check.due("its handle stays", x.handle(0, 1), 1);
        check.due("the old name is free", bench.one(0, 0, WALK, 0, 7, 1), ABSENT);
        check.due("another name in its place", bench.valueOf(0, 0, MOVE, 2, 2, 9, MIN), 1);
        check.due("the same name in its place", bench.valueOf(0, 0, MOVE, 2, 2, MIN, MIN), 1);
        check.due("a directory in its place", bench.valueOf(0, 0, MOVE, 0, 0, 2, 2), 2);
        check.due("over another", bench.one(0, 0, MOVE, 2, 2, MIN, 3), EXISTS);
        check.due("into itself", bench.one(0, 0, MOVE, 0, 2, 2, 8), CIRCLE);
        check.due("below itself", bench.one(0, 0, MOVE, 0, 3, 2, 8), CIRCLE);
        check.due("EXISTS before CIRCLE", bench.one(0, 0, MOVE, 0, 3, 2, 4), EXISTS);
        check.due("a refused one changes nothing", x.node(2, 1), 0);
        check.due("nor its name", x.node(2, 2), 2);
        check.due("up with what is in it", bench.valueOf(0, 0, MOVE, 2, 0, 3, 3), 3);
        check.due("what is in it stays", x.node(4, 1), 3);
        check.due("now the other into it", bench.valueOf(0, 0, MOVE, 0, 3, 2, 2), 2);
        check.due("nodes", x.nodes(), 5);
    }

    private static void movingInOrderOfConditions() {
        Bench bench = bench();
        check.due("h is stale before a is bad", bench.one(0, 0, MOVE, 3, -1, 1, 0), STALE);
        check.due("a is bad before h is a file", bench.one(0, 0, MOVE, 1, -1, 1, 0), BAD);
        check.due("a is 8", bench.one(0, 0, MOVE, 0, 8, 1, 9), BAD);
        check.due("a is stale before h is a file", bench.one(0, 0, MOVE, 1, 3, 1, 0), STALE);
        check.due("h is a file", bench.one(0, 0, MOVE, 1, 0, 1, 0), KIND);
        check.due("a is a file", bench.one(0, 0, MOVE, 0, 1, 1, 0), KIND);
        check.due("c is 0 before the name", bench.one(0, 0, MOVE, 0, 2, 77, 0), BAD);
        check.due("no such name before the other", bench.one(0, 0, MOVE, 0, 0, 77, 2), ABSENT);
        check.due("no name 0", bench.one(0, 0, MOVE, 0, 0, 0, 9), ABSENT);
        bench.done(0, 0, s(MAKE, 2, 0, 1), s(REMOVE, 2, 0, 1), s(WALK, 0, 4, 2), s(REMOVE, 0, 0, 2));
        check.due("a is gone", bench.one(0, 0, MOVE, 0, 4, 1, 9), STALE);
    }

    private static void reading() {
        Bench bench = bench();
        check.due("an empty file", bench.valueOf(0, 0, READ, 1, 0), -1);
        check.due("far behind", bench.valueOf(0, 0, READ, 1, MAX), -1);
        check.due("a is -1", bench.one(0, 0, READ, 1, -1), BAD);
        check.due("a is MIN", bench.one(0, 0, READ, 1, MIN), BAD);
        bench.done(0, 0, s(WRITE, 1, 63, 255), s(WRITE, 1, 0, 1));
        check.due("byte 63", bench.valueOf(0, 0, READ, 1, 63), 255);
        check.due("byte 64", bench.valueOf(0, 0, READ, 1, 64), -1);
        check.due("byte 62", bench.valueOf(0, 0, READ, 1, 62), 0);
        check.due("byte 0", bench.valueOf(0, 0, READ, 1, 0), 1);
    }

    private static void writing() {
        Bench bench = bench();
        int[][] bad = {{-1, 0}, {64, 0}, {MIN, 0}, {0, -1}, {0, 256}, {0, MAX}};
        for (int[] n : bad) {
            check.due("WRITE " + n[0] + " " + n[1], bench.one(0, 0, WRITE, 1, n[0], n[1]), BAD);
            check.due("HELD " + n[0] + " " + n[1], bench.one(0, 0, HELD, 1, n[0], n[1]), BAD);
        }
        check.due("no bytes yet", bench.x.node(1, 3), 0);
        check.due("byte 0", bench.valueOf(0, 0, WRITE, 1, 0, 5), 1);
        check.due("the byte behind it", bench.valueOf(0, 0, WRITE, 1, 1, 6), 2);
        check.due("byte 0 again", bench.valueOf(0, 0, WRITE, 1, 0, 0), 2);
        check.due("byte 3", bench.valueOf(0, 0, WRITE, 1, 3, 200), 4);
        check.due("byte 1", bench.valueOf(0, 0, WRITE, 1, 1, 7), 4);
        check.due("byte 63", bench.valueOf(0, 0, WRITE, 1, 63, 0), 64);
        int[] due = {0, 7, 0, 200, 0};
        for (int i = 0; i < due.length; i++) {
            check.due("byte " + i, bench.valueOf(0, 0, READ, 1, i), due[i]);
        }
        check.due("how many", bench.x.node(1, 3), 64);
    }

    private static void resizing() {
        Bench bench = bench();
        check.due("a is -1", bench.one(0, 0, SIZE, 1, -1), BAD);
        check.due("a is 65", bench.one(0, 0, SIZE, 1, 65), BAD);
        check.due("it had none", bench.valueOf(0, 0, SIZE, 1, 64), 0);
        bench.done(0, 0, s(WRITE, 1, 10, 9), s(WRITE, 1, 11, 8));
        check.due("it had 64", bench.valueOf(0, 0, SIZE, 1, 11), 64);
        check.due("it has 11", bench.x.node(1, 3), 11);
        check.due("the last one stays", bench.valueOf(0, 0, READ, 1, 10), 9);
        check.due("the next is gone", bench.valueOf(0, 0, READ, 1, 11), -1);
        check.due("it had 11", bench.valueOf(0, 0, SIZE, 1, 12), 11);
        check.due("what comes is 0", bench.valueOf(0, 0, READ, 1, 11), 0);
        check.due("the same", bench.valueOf(0, 0, SIZE, 1, 12), 12);
        check.due("to none", bench.valueOf(0, 0, SIZE, 1, 0), 12);
        check.due("a write behind it", bench.valueOf(0, 0, WRITE, 1, 20, 1), 21);
        check.due("bytes before it are 0", bench.valueOf(0, 0, READ, 1, 10), 0);
        filesAreApart();
    }

    private static void filesAreApart() {
        Bench bench = new Bench();
        bench.done(0, 0, s(ROOT, 0), s(MAKE, 0, 0, 1), s(MAKE, 0, 0, 2), s(WALK, 0, 1, 1));
        bench.done(0, 0, s(WALK, 0, 2, 2), s(WRITE, 2, 0, 44), s(WRITE, 1, 63, 33), s(SIZE, 1, 5));
        check.due("the other's first byte", bench.valueOf(0, 0, READ, 2, 0), 44);
        check.due("the other has one byte", bench.x.node(2, 3), 1);
        bench.done(0, 0, s(SIZE, 1, 64), s(SIZE, 2, 0), s(WRITE, 1, 63, 33), s(REMOVE, 0, 0, 2));
        check.due("the last byte beside one that is gone", bench.valueOf(0, 0, READ, 1, 63), 33);
    }

    private static void listing() {
        Bench bench = new Bench();
        bench.done(0, 0, s(ROOT, 0), s(MAKE, 0, 0, MAX), s(MAKE, 0, 1, MIN), s(MAKE, 0, 0, -1));
        bench.done(0, 0, s(MAKE, 0, 0, 1), s(WALK, 0, 1, MIN), s(MAKE, 1, 0, 2));
        int[] due = {MIN, -1, 1, MAX};
        for (int i = 0; i < due.length; i++) {
            check.due("name " + i, bench.valueOf(0, 0, LIST, 0, i), due[i]);
        }
        check.due("no fifth", bench.one(0, 0, LIST, 0, 4), ABSENT);
        check.due("none for -1", bench.one(0, 0, LIST, 0, -1), ABSENT);
        check.due("none for MIN", bench.one(0, 0, LIST, 0, MIN), ABSENT);
        check.due("in the other", bench.valueOf(0, 0, LIST, 1, 0), 2);
        check.due("only one", bench.one(0, 0, LIST, 1, 1), ABSENT);
    }
}
