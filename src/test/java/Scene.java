/**
 * A server in a known state, for tests of single steps, which client 0 sends in slot 2.
 *
 * Nodes: 0 the root, in it 1 a file (name 11, 10 bytes, the first 100, the last 109) and 2 a directory (name 12), in
 * that 3 a directory (name 13), in that 4 a file (name 14, empty). Node 5 was there, and is gone.
 * Locks on node 1: client 0 has byte 0 alone and shares byte 1; client 1 shares byte 4, and has 6 and 12 alone.
 */
final class Scene {
    /** Handles of client 0. Client 1 has the root and the file as handles 0 and 1, too. */
    static final int ROOT = 0, FILE = 1, DIR = 2, UNBOUND = 3, GONE = 4, INNER = 5, FREE = 6;
    static final int FILE_NAME = 11, DIR_NAME = 12, INNER_NAME = 13, FREE_NAME = 14, GONE_NAME = 15;
    static final int FILE_NODE = 1, DIR_NODE = 2, INNER_NODE = 3, FREE_NODE = 4, GONE_NODE = 5;
    private static final int[] PLACES = {0, 1, 3, 4, 5, 6, 12, 63};

    final Bench bench = new Bench();
    final SlotServer x = bench.x;
    private final Check check;

    Scene(Check check) {
        this.check = check;
        bench.done(0, 0, s(Ops.ROOT, ROOT), s(Ops.MAKE, ROOT, 0, FILE_NAME), s(Ops.MAKE, ROOT, 1, DIR_NAME));
        bench.done(0, 0, s(Ops.WALK, ROOT, FILE, FILE_NAME), s(Ops.WALK, ROOT, DIR, DIR_NAME));
        bench.done(0, 0, s(Ops.MAKE, DIR, 1, INNER_NAME), s(Ops.WALK, DIR, INNER, INNER_NAME));
        bench.done(0, 0, s(Ops.MAKE, INNER, 0, FREE_NAME), s(Ops.WALK, INNER, FREE, FREE_NAME));
        bench.done(0, 0, s(Ops.MAKE, ROOT, 0, GONE_NAME), s(Ops.WALK, ROOT, GONE, GONE_NAME), s(Ops.REMOVE, ROOT, 0, GONE_NAME));
        bench.done(0, 0, s(Ops.WRITE, FILE, 0, 100), s(Ops.WRITE, FILE, 9, 109));
        bench.done(0, 0, s(Ops.LOCK, FILE, 0, 0, 2), s(Ops.LOCK, FILE, 1, 1, 1));
        bench.done(1, 0, s(Ops.ROOT, ROOT), s(Ops.WALK, ROOT, FILE, FILE_NAME), s(Ops.LOCK, FILE, 4, 4, 1));
        bench.done(1, 0, s(Ops.LOCK, FILE, 6, 6, 2), s(Ops.LOCK, FILE, 12, 12, 2));
    }

    private static int[] s(int... step) {
        return step;
    }

    /** The server stops at once and begins anew: its locks are former ones then, in the time of grace. */
    Scene restarted() {
        x.stop(SlotServer.NONE);
        x.boot();
        return this;
    }

    /** A step that is done before the one that is tested. */
    Scene with(int... step) {
        accepted(step);
        return this;
    }

    void accepted(int... step) {
        check.due(told(step) + " code", bench.one(0, 2, step), SlotServer.OK);
    }

    void valued(int value, int... step) {
        accepted(step);
        check.due(told(step) + " value", x.value(0, 2, 0), value);
    }

    /** The step has that code, no value, and changes nothing. */
    void refused(int code, int... step) {
        String before = picture();
        check.due(told(step) + " code", bench.one(0, 2, step), code);
        check.due(told(step) + " value", x.value(0, 2, 0), 0);
        check.same(told(step) + " before and after", picture(), before);
    }

    /** Directories, each in the one before, as many as there can be; handle 2 is the last of them. */
    void deepen() {
        for (int name = 1; x.nodes() < 32; name++) {
            bench.done(0, 0, s(Ops.MAKE, DIR, 1, name), s(Ops.WALK, DIR, DIR, name));
        }
    }

    /** Files with the names 101 and so on in the root until there are so many nodes. */
    void fillTo(int nodes) {
        for (int name = 101; x.nodes() < nodes; name++) {
            bench.done(0, 0, s(Ops.MAKE, ROOT, 0, name));
        }
    }

    /** All that is seen, but for slot 2 of client 0: some hundred calls, since an object has 512. */
    String picture() {
        return x.runs() ? face() + " b" + bytes() : face();
    }

    /** What the face tells without a call that the server does. */
    String face() {
        StringBuilder all = new StringBuilder();
        all.append(x.runs()).append(' ').append(x.nodes()).append(' ').append(x.time(0));
        for (int node = 0; node < 6; node++) {
            all.append(" n");
            for (int what = 0; what < 4; what++) {
                all.append(x.node(node, what)).append(',');
            }
        }
        for (int client = 0; client < 2; client++) {
            all.append(" c").append(x.lease(client));
            for (int h = 0; h < 8; h++) {
                all.append(',').append(x.handle(client, h));
            }
            all.append(" l");
            for (int place : PLACES) {
                all.append(x.lock(client, FILE_NODE, place));
            }
        }
        return all.append(" a").append(x.code(0, 0, 0)).append(x.code(0, 0, 1)).append(x.value(0, 0, 0)).toString();
    }

    /** Bytes that are no other client's alone, by a call in slot 1. */
    private String bytes() {
        int[] read = {Ops.READ, FILE, 0};
        bench.done(0, 1, read, s(Ops.READ, FILE, 4), s(Ops.READ, FILE, 9), s(Ops.READ, FREE, 0));
        return x.value(0, 1, 0) + "," + x.value(0, 1, 1) + "," + x.value(0, 1, 2) + "," + x.value(0, 1, 3);
    }

    private static String told(int... step) {
        StringBuilder all = new StringBuilder("step");
        for (int number : step) {
            all.append(' ').append(number);
        }
        return all.toString();
    }
}
