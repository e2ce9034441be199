/**
 * The sentences of the document on the steps with nodes, names, handles and bytes, one by one: each condition alone, at
 * its boundary, and before the condition that stands behind it. A step that is refused must change nothing.
 */
public final class EdgeStepTest {
    private static final int ROOT = Scene.ROOT, FILE = Scene.FILE, DIR = Scene.DIR, UNBOUND = Scene.UNBOUND;
    private static final int GONE = Scene.GONE, INNER = Scene.INNER, FREE = Scene.FREE;
    private static final int MIN = Ops.MIN, MAX = Ops.MAX;
    private static final int[] NO_HANDLES = {-1, 8, MIN, MAX};

    /** A step of each op that goes in a new scene (CLAIM, when it was restarted). */
    private static final int[][] GOOD = {
        {Ops.ROOT, 7}, {Ops.WALK, ROOT, 7, 11}, {Ops.MAKE, ROOT, 0, 16}, {Ops.REMOVE, ROOT, 0, 11},
        {Ops.MOVE, ROOT, INNER, 11, 16}, {Ops.READ, FILE, 0}, {Ops.WRITE, FILE, 0, 1}, {Ops.HELD, FILE, 0, 1},
        {Ops.SIZE, FILE, 9}, {Ops.LIST, ROOT, 0}, {Ops.LOCK, FILE, 2, 3, 2}, {Ops.UNLOCK, FILE, 0, 1},
        {Ops.RENEW, 7}, {Ops.CLAIM, FILE, 0, 0, 2},
    };
    private static final Check check = new Check();

    private interface OnScene {
        void test(Scene s);
    }

    public static void main(String[] args) {
        handles();
        kinds();
        root();
        walk();
        make();
        fullTree();
        numbers();
        remove();
        move();
        moveOrder();
        circles();
        read();
        write();
        size();
        list();
        check.end();
    }

    private static void edge(String words, OnScene test) {
        check.sentence(words, () -> test.test(new Scene(check)));
    }

    private static int[] withHandle(int[] step, int h) {
        int[] other = step.clone();
        other[1] = h;
        return other;
    }

    private static void handles() {
        for (int[] good : GOOD) {
            int op = good[0];
            boolean asksNone = op == Ops.ROOT || op == Ops.RENEW;
            edge("op " + op + " goes", s -> goes(s, good));
            for (int h : NO_HANDLES) {
                edge("op " + op + " with h not 0 .. 7: BAD", s -> s.refused(Ops.BAD, withHandle(good, h)));
            }
            if (asksNone) {
                edge("but for ROOT and RENEW: " + op + ", h not bound", s -> s.accepted(withHandle(good, UNBOUND)));
                edge("but for ROOT and RENEW: " + op + ", h gone", s -> s.accepted(withHandle(good, GONE)));
            } else {
                edge("op " + op + " with h not bound: STALE", s -> s.refused(Ops.STALE, withHandle(good, UNBOUND)));
                edge("op " + op + " bound to a node that is gone: STALE", s -> s.refused(Ops.STALE, withHandle(good, GONE)));
                edge("op " + op + " also when another has its number", s -> goneForGood(s, withHandle(good, GONE)));
            }
        }
    }

    private static void goes(Scene s, int[] step) {
        if (step[0] == Ops.CLAIM) {
            s.restarted();
        }
        s.accepted(step);
    }

    private static void goneForGood(Scene s, int[] step) {
        s.valued(Scene.GONE_NODE, Ops.MAKE, ROOT, 0, Scene.GONE_NAME);
        s.refused(Ops.STALE, step);
    }

    private static void kinds() {
        for (int[] good : GOOD) {
            int op = good[0];
            if (op == Ops.ROOT || op == Ops.RENEW || op == Ops.MOVE) {
                continue;
            }
            boolean onDirectory = op == Ops.WALK || op == Ops.MAKE || op == Ops.REMOVE || op == Ops.LIST;
            edge("op " + op + ": KIND", s -> s.refused(Ops.KIND, withHandle(good, onDirectory ? FILE : DIR)));
            if (!onDirectory) {
                edge("op " + op + ": KIND of the root", s -> s.refused(Ops.KIND, withHandle(good, ROOT)));
            }
        }
        edge("KIND before BAD: WALK", s -> s.refused(Ops.KIND, Ops.WALK, FILE, 8, 11));
        edge("KIND before BAD: MAKE", s -> s.refused(Ops.KIND, Ops.MAKE, FILE, 2, 0));
        edge("KIND before BAD: READ", s -> s.refused(Ops.KIND, Ops.READ, DIR, -1));
        edge("KIND before BAD: WRITE", s -> s.refused(Ops.KIND, Ops.WRITE, DIR, 64, 256));
        edge("KIND before BAD: HELD", s -> s.refused(Ops.KIND, Ops.HELD, DIR, 64, 256));
        edge("KIND before BAD: SIZE", s -> s.refused(Ops.KIND, Ops.SIZE, DIR, 65));
        edge("KIND before BAD: LOCK", s -> s.refused(Ops.KIND, Ops.LOCK, DIR, 1, 0, 3));
        edge("KIND before BAD: UNLOCK", s -> s.refused(Ops.KIND, Ops.UNLOCK, DIR, 1, 0));
        edge("KIND before BAD: CLAIM", s -> s.refused(Ops.KIND, Ops.CLAIM, DIR, 1, 0, 3));
        edge("KIND before ABSENT: REMOVE", s -> s.refused(Ops.KIND, Ops.REMOVE, FILE, 0, 99));
        edge("KIND before ABSENT: LIST", s -> s.refused(Ops.KIND, Ops.LIST, FILE, -1));
        edge("KIND before GRACE: LOCK", s -> s.restarted().refused(Ops.KIND, Ops.LOCK, DIR, 0, 0, 1));
    }

    private static void root() {
        for (int h : new int[] {0, 7}) {
            edge("ROOT: h is bound to the root", s -> {
                s.valued(0, Ops.ROOT, h, MIN, MAX, -1);
                check.due("bound", s.x.handle(0, h), 0);
            });
        }
        edge("ROOT: also what was bound to another", s -> {
            s.valued(0, Ops.ROOT, FILE);
            check.due("bound", s.x.handle(0, FILE), 0);
            check.due("of this client alone", s.x.handle(1, FILE), Scene.FILE_NODE);
        });
    }

    private static void walk() {
        for (int a : new int[] {0, 7}) {
            edge("WALK: handle a is bound to what has the name b: its number", s -> {
                s.valued(Scene.DIR_NODE, Ops.WALK, ROOT, a, Scene.DIR_NAME);
                check.due("bound", s.x.handle(0, a), Scene.DIR_NODE);
            });
        }
        for (int a : NO_HANDLES) {
            edge("WALK: BAD if a is not 0 .. 7", s -> s.refused(Ops.BAD, Ops.WALK, ROOT, a, Scene.FILE_NAME));
            edge("WALK: BAD before ABSENT", s -> s.refused(Ops.BAD, Ops.WALK, ROOT, a, 99));
        }
        edge("WALK: ABSENT if there is no such name", s -> s.refused(Ops.ABSENT, Ops.WALK, ROOT, 7, 99));
        edge("WALK: a name in another directory", s -> s.refused(Ops.ABSENT, Ops.WALK, ROOT, 7, Scene.INNER_NAME));
        edge("WALK: the root has no name", s -> s.refused(Ops.ABSENT, Ops.WALK, ROOT, 7, 0));
        edge("WALK: a name that is gone", s -> s.refused(Ops.ABSENT, Ops.WALK, ROOT, 7, Scene.GONE_NAME));
        edge("WALK: an empty directory", s -> s.with(Ops.REMOVE, INNER, 0, Scene.FREE_NAME)
            .refused(Ops.ABSENT, Ops.WALK, INNER, 7, Scene.FREE_NAME));
    }

    private static void make() {
        for (int a : new int[] {0, 1}) {
            edge("MAKE: a file (a = 0) or directory (a = 1)", s -> {
                s.valued(5, Ops.MAKE, ROOT, a, 16);
                check.due("kind", s.x.node(5, 0), a);
                check.due("directory", s.x.node(5, 1), 0);
                check.due("name", s.x.node(5, 2), 16);
                check.due("bytes", s.x.node(5, 3), 0);
            });
        }
        for (int a : new int[] {-1, 2, MIN, MAX}) {
            edge("MAKE: BAD (a)", s -> s.refused(Ops.BAD, Ops.MAKE, ROOT, a, 16));
            edge("MAKE: BAD before EXISTS", s -> s.refused(Ops.BAD, Ops.MAKE, ROOT, a, Scene.FILE_NAME));
        }
        edge("MAKE: BAD (also when b is 0)", s -> s.refused(Ops.BAD, Ops.MAKE, ROOT, 0, 0));
        edge("MAKE: BAD (also when b is 0), a directory", s -> s.refused(Ops.BAD, Ops.MAKE, ROOT, 1, 0));
        for (int name : new int[] {1, -1, MIN, MAX}) {
            edge("a NAME (a number, not 0)", s -> {
                s.valued(5, Ops.MAKE, ROOT, 0, name);
                check.due("name", s.x.node(5, 2), name);
            });
        }
        edge("MAKE: EXISTS, a file's", s -> s.refused(Ops.EXISTS, Ops.MAKE, ROOT, 1, Scene.FILE_NAME));
        edge("MAKE: EXISTS, a directory's", s -> s.refused(Ops.EXISTS, Ops.MAKE, ROOT, 0, Scene.DIR_NAME));
        edge("in a directory, where it is only once: in another it may be", s -> s.valued(5, Ops.MAKE, DIR, 0, Scene.FILE_NAME));
    }

    private static void fullTree() {
        edge("MAKE: the last of 32 nodes", s -> {
            s.fillTo(31);
            s.valued(31, Ops.MAKE, DIR, 1, 16);
            check.due("nodes", s.x.nodes(), 32);
        });
        edge("MAKE: FULL if there are 32 nodes", s -> {
            s.fillTo(32);
            s.refused(Ops.FULL, Ops.MAKE, DIR, 0, 16);
        });
        edge("MAKE: EXISTS before FULL", s -> {
            s.fillTo(32);
            s.refused(Ops.EXISTS, Ops.MAKE, ROOT, 0, Scene.FILE_NAME);
        });
        edge("MAKE: BAD before FULL", s -> {
            s.fillTo(32);
            s.refused(Ops.BAD, Ops.MAKE, ROOT, 0, 0);
        });
        edge("MAKE: full no more when one went", s -> {
            s.fillTo(32);
            s.with(Ops.REMOVE, ROOT, 0, 101);
            s.valued(5, Ops.MAKE, ROOT, 1, 16);
        });
        edge("MOVE asks for no room", s -> {
            s.fillTo(32);
            s.valued(Scene.FILE_NODE, Ops.MOVE, ROOT, DIR, Scene.FILE_NAME, 16);
        });
    }

    private static void numbers() {
        edge("A node is made with the least number that none has", s -> {
            s.with(Ops.MAKE, ROOT, 0, 16).with(Ops.MAKE, ROOT, 0, 17).with(Ops.REMOVE, ROOT, 0, 16);
            s.with(Ops.REMOVE, ROOT, 0, Scene.FILE_NAME);
            s.valued(1, Ops.MAKE, ROOT, 0, 18);
            s.valued(5, Ops.MAKE, ROOT, 0, 19);
            s.valued(7, Ops.MAKE, ROOT, 0, 20);
        });
        edge("one that is made anew with a number is another one", s -> {
            s.with(Ops.REMOVE, ROOT, 0, Scene.FILE_NAME);
            s.valued(Scene.FILE_NODE, Ops.MAKE, ROOT, 0, Scene.FILE_NAME);
            check.due("handle", s.x.handle(0, FILE), Ops.NONE);
            check.due("another's handle", s.x.handle(1, FILE), Ops.NONE);
            check.due("lock", s.x.lock(0, Scene.FILE_NODE, 0), 0);
            check.due("another's lock", s.x.lock(1, Scene.FILE_NODE, 6), 0);
            check.due("bytes", s.x.node(Scene.FILE_NODE, 3), 0);
            s.with(Ops.WALK, ROOT, FILE, Scene.FILE_NAME).with(Ops.SIZE, FILE, 10);
            s.valued(0, Ops.READ, FILE, 9);
        });
    }

    private static void remove() {
        edge("REMOVE: a file, its number", s -> {
            s.valued(Scene.FILE_NODE, Ops.REMOVE, ROOT, MIN, Scene.FILE_NAME, MAX);
            check.due("nodes", s.x.nodes(), 4);
            int[] due = {Ops.NONE, Ops.NONE, 0, 0};
            for (int what = 0; what < 4; what++) {
                check.due("what " + what, s.x.node(Scene.FILE_NODE, what), due[what]);
            }
        });
        edge("REMOVE: and is gone, with all locks on it", s -> {
            s.with(Ops.REMOVE, ROOT, 0, Scene.FILE_NAME);
            for (int place : new int[] {0, 1, 4, 6, 12}) {
                check.due("lock " + place, s.x.lock(0, 1, place) + s.x.lock(1, 1, place), 0);
            }
        });
        edge("REMOVE: all locks, former ones too", s -> {
            s.restarted().with(Ops.REMOVE, ROOT, 0, Scene.FILE_NAME);
            for (int place : new int[] {0, 1, 4, 6, 12}) {
                check.due("lock " + place, s.x.lock(0, 1, place) + s.x.lock(1, 1, place), 0);
            }
        });
        edge("REMOVE: ABSENT", s -> s.refused(Ops.ABSENT, Ops.REMOVE, ROOT, 0, 99));
        edge("REMOVE: ABSENT, name 0", s -> s.refused(Ops.ABSENT, Ops.REMOVE, ROOT, 0, 0));
        edge("REMOVE: ABSENT, in another directory", s -> s.refused(Ops.ABSENT, Ops.REMOVE, DIR, 0, Scene.FILE_NAME));
        edge("REMOVE: ABSENT, twice", s -> s.refused(Ops.ABSENT, Ops.REMOVE, ROOT, 0, Scene.GONE_NAME));
        edge("REMOVE: NOT_EMPTY, a directory is in it", s -> s.refused(Ops.NOT_EMPTY, Ops.REMOVE, ROOT, 0, Scene.DIR_NAME));
        edge("REMOVE: NOT_EMPTY, a file is in it", s -> s.refused(Ops.NOT_EMPTY, Ops.REMOVE, DIR, 0, Scene.INNER_NAME));
        edge("REMOVE: an empty directory", s -> {
            s.with(Ops.REMOVE, INNER, 0, Scene.FREE_NAME);
            s.valued(Scene.INNER_NODE, Ops.REMOVE, DIR, 0, Scene.INNER_NAME);
            check.due("its handle", s.x.handle(0, INNER), Ops.NONE);
        });
        edge("REMOVE: what was moved out of it is not in it", s -> {
            s.with(Ops.MOVE, INNER, ROOT, Scene.FREE_NAME, 16);
            s.valued(Scene.INNER_NODE, Ops.REMOVE, DIR, 0, Scene.INNER_NAME);
        });
    }

    private static void move() {
        edge("MOVE: gets the name c in the directory of a: its number", s -> {
            s.valued(Scene.FILE_NODE, Ops.MOVE, ROOT, INNER, Scene.FILE_NAME, MIN);
            check.due("directory", s.x.node(Scene.FILE_NODE, 1), Scene.INNER_NODE);
            check.due("name", s.x.node(Scene.FILE_NODE, 2), MIN);
            check.due("handle", s.x.handle(0, FILE), Scene.FILE_NODE);
            check.due("bytes", s.x.node(Scene.FILE_NODE, 3), 10);
            check.due("lock", s.x.lock(1, Scene.FILE_NODE, 6), Ops.ALONE);
            s.refused(Ops.ABSENT, Ops.WALK, ROOT, 7, Scene.FILE_NAME);
        });
        for (int a : NO_HANDLES) {
            edge("MOVE: BAD (a)", s -> s.refused(Ops.BAD, Ops.MOVE, ROOT, a, Scene.FILE_NAME, 16));
        }
        edge("MOVE: STALE (a), not bound", s -> s.refused(Ops.STALE, Ops.MOVE, ROOT, UNBOUND, Scene.FILE_NAME, 16));
        edge("MOVE: STALE (a), gone", s -> s.refused(Ops.STALE, Ops.MOVE, ROOT, GONE, Scene.FILE_NAME, 16));
        edge("MOVE: KIND (h)", s -> s.refused(Ops.KIND, Ops.MOVE, FILE, ROOT, Scene.FILE_NAME, 16));
        edge("MOVE: KIND (or that)", s -> s.refused(Ops.KIND, Ops.MOVE, ROOT, FREE, Scene.FILE_NAME, 16));
        edge("MOVE: BAD (c is 0)", s -> s.refused(Ops.BAD, Ops.MOVE, ROOT, DIR, Scene.FILE_NAME, 0));
        edge("MOVE: ABSENT", s -> s.refused(Ops.ABSENT, Ops.MOVE, ROOT, DIR, 99, 16));
        edge("MOVE: ABSENT, name 0", s -> s.refused(Ops.ABSENT, Ops.MOVE, ROOT, DIR, 0, 16));
        edge("MOVE: EXISTS", s -> s.refused(Ops.EXISTS, Ops.MOVE, ROOT, DIR, Scene.FILE_NAME, Scene.INNER_NAME));
        edge("MOVE: EXISTS, in its own directory", s -> s.refused(Ops.EXISTS, Ops.MOVE, ROOT, ROOT, Scene.FILE_NAME, Scene.DIR_NAME));
        edge("MOVE: if something else (not what is moved) has the name c", s -> s.valued(Scene.FILE_NODE, Ops.MOVE, ROOT, ROOT, Scene.FILE_NAME, Scene.FILE_NAME));
        edge("MOVE: a directory to its own name", s -> s.valued(Scene.DIR_NODE, Ops.MOVE, ROOT, ROOT, Scene.DIR_NAME, Scene.DIR_NAME));
        edge("MOVE: what is moved has that name elsewhere", s -> s.valued(Scene.FILE_NODE, Ops.MOVE, ROOT, DIR, Scene.FILE_NAME, Scene.FILE_NAME));
    }

    private static void moveOrder() {
        edge("MOVE: STALE (h) before BAD (a)", s -> s.refused(Ops.STALE, Ops.MOVE, UNBOUND, 8, Scene.FILE_NAME, 16));
        edge("MOVE: BAD (a) before KIND", s -> s.refused(Ops.BAD, Ops.MOVE, FILE, 8, Scene.FILE_NAME, 16));
        edge("MOVE: STALE (a) before KIND", s -> s.refused(Ops.STALE, Ops.MOVE, FILE, GONE, Scene.FILE_NAME, 16));
        edge("MOVE: KIND (h) before BAD (c is 0)", s -> s.refused(Ops.KIND, Ops.MOVE, FILE, ROOT, Scene.FILE_NAME, 0));
        edge("MOVE: KIND (that) before BAD (c is 0)", s -> s.refused(Ops.KIND, Ops.MOVE, ROOT, FREE, Scene.FILE_NAME, 0));
        edge("MOVE: BAD (c is 0) before ABSENT", s -> s.refused(Ops.BAD, Ops.MOVE, ROOT, DIR, 99, 0));
        edge("MOVE: ABSENT before EXISTS", s -> s.refused(Ops.ABSENT, Ops.MOVE, ROOT, DIR, 99, Scene.INNER_NAME));
        edge("MOVE: EXISTS before CIRCLE", s -> s.refused(Ops.EXISTS, Ops.MOVE, ROOT, DIR, Scene.DIR_NAME, Scene.INNER_NAME));
    }

    private static void circles() {
        edge("MOVE: CIRCLE if it is that directory", s -> s.refused(Ops.CIRCLE, Ops.MOVE, ROOT, DIR, Scene.DIR_NAME, 16));
        edge("MOVE: CIRCLE if that one lies in it", s -> s.refused(Ops.CIRCLE, Ops.MOVE, ROOT, INNER, Scene.DIR_NAME, 16));
        edge("MOVE: no circle upwards", s -> s.valued(Scene.INNER_NODE, Ops.MOVE, DIR, ROOT, Scene.INNER_NAME, 16));
        edge("MOVE: no circle for one beside it", s -> {
            s.with(Ops.MAKE, ROOT, 1, 16);
            s.valued(5, Ops.MOVE, ROOT, INNER, 16, 16);
            check.due("directory", s.x.node(5, 1), Scene.INNER_NODE);
        });
        edge("MOVE: CIRCLE through all directories that there can be", s -> {
            s.deepen();
            check.due("the deepest", s.x.handle(0, DIR), 31);
            s.refused(Ops.CIRCLE, Ops.MOVE, ROOT, DIR, Scene.DIR_NAME, 16);
            s.valued(Scene.FILE_NODE, Ops.MOVE, ROOT, DIR, Scene.FILE_NAME, 16);
        });
    }

    private static void read() {
        edge("READ: byte a of the file: its value", s -> {
            s.valued(100, Ops.READ, FILE, 0);
            s.valued(109, Ops.READ, FILE, 9);
        });
        for (int a : new int[] {10, 63, 64, MAX}) {
            edge("READ: -1 if there are not so many", s -> s.valued(-1, Ops.READ, FILE, a));
        }
        edge("READ: -1 of an empty file", s -> s.valued(-1, Ops.READ, FREE, 0));
        edge("READ: a full file", s -> {
            s.with(Ops.WRITE, FREE, 63, 255);
            s.valued(255, Ops.READ, FREE, 63);
            s.valued(-1, Ops.READ, FREE, 64);
        });
        for (int a : new int[] {-1, MIN}) {
            edge("READ: BAD (a is less than 0)", s -> s.refused(Ops.BAD, Ops.READ, FILE, a));
        }
    }

    private static void write() {
        for (int op : new int[] {Ops.WRITE, Ops.HELD}) {
            for (int a : new int[] {-1, 64, MIN, MAX}) {
                edge("op " + op + ": BAD (a is not 0 .. 63)", s -> s.refused(Ops.BAD, op, FILE, a, 1));
            }
            for (int b : new int[] {-1, 256, MIN, MAX}) {
                edge("op " + op + ": BAD (b not 0 .. 255)", s -> s.refused(Ops.BAD, op, FILE, 0, b));
            }
            for (int b : new int[] {0, 255}) {
                edge("op " + op + ": values 0 .. 255", s -> {
                    s.valued(10, op, FILE, 0, b);
                    s.valued(b, Ops.READ, FILE, 0);
                });
            }
            edge("op " + op + ": how many there are then", s -> {
                s.with(Ops.LOCK, FREE, 0, 63, 2);
                s.valued(1, op, FREE, 0, 1);
                s.valued(2, op, FREE, 1, 1);
                s.valued(2, op, FREE, 0, 2);
                s.valued(64, op, FREE, 63, 3);
                check.due("bytes", s.x.node(Scene.FREE_NODE, 3), 64);
            });
            edge("op " + op + ": bytes before it that weren't there are 0", s -> {
                s.with(Ops.LOCK, FREE, 0, 63, 2).with(op, FREE, 2, 9).with(Ops.SIZE, FREE, 0);
                s.valued(4, op, FREE, 3, 7);
                int[] due = {0, 0, 0, 7, -1};
                for (int i = 0; i < due.length; i++) {
                    s.valued(due[i], Ops.READ, FREE, i);
                }
            });
        }
    }

    private static void size() {
        for (int a : new int[] {-1, 65, MIN, MAX}) {
            edge("SIZE: BAD (a is not 0 .. 64)", s -> s.refused(Ops.BAD, Ops.SIZE, FREE, a));
        }
        edge("SIZE: 64 at most, how many it had", s -> {
            s.valued(0, Ops.SIZE, FREE, 64);
            check.due("bytes", s.x.node(Scene.FREE_NODE, 3), 64);
            s.valued(0, Ops.READ, FREE, 63);
        });
        edge("SIZE: none", s -> {
            s.with(Ops.WRITE, FREE, 63, 1);
            s.valued(64, Ops.SIZE, FREE, 0);
            check.due("bytes", s.x.node(Scene.FREE_NODE, 3), 0);
            s.valued(-1, Ops.READ, FREE, 0);
        });
        edge("SIZE: as many as before", s -> {
            s.valued(10, Ops.SIZE, FILE, 10);
            s.valued(109, Ops.READ, FILE, 9);
        });
        edge("SIZE: none of none", s -> s.valued(0, Ops.SIZE, FREE, 0));
        edge("SIZE: those that come are 0", s -> {
            s.with(Ops.WRITE, FREE, 3, 9).with(Ops.WRITE, FREE, 2, 8).with(Ops.SIZE, FREE, 3);
            s.valued(3, Ops.SIZE, FREE, 4);
            s.valued(8, Ops.READ, FREE, 2);
            s.valued(0, Ops.READ, FREE, 3);
        });
    }

    private static void list() {
        edge("LIST: the name with a lesser ones", s -> {
            s.valued(Scene.FILE_NAME, Ops.LIST, ROOT, 0);
            s.valued(Scene.DIR_NAME, Ops.LIST, ROOT, 1);
            s.valued(Scene.INNER_NAME, Ops.LIST, DIR, 0);
        });
        for (int a : new int[] {2, 31, 32, MAX}) {
            edge("LIST: ABSENT", s -> s.refused(Ops.ABSENT, Ops.LIST, ROOT, a));
        }
        for (int a : new int[] {-1, MIN}) {
            edge("LIST: none for a below 0", s -> s.refused(Ops.ABSENT, Ops.LIST, ROOT, a));
        }
        edge("LIST: an empty directory", s -> s.with(Ops.REMOVE, INNER, 0, Scene.FREE_NAME).refused(Ops.ABSENT, Ops.LIST, INNER, 0));
        edge("LIST: as ints", s -> {
            for (int name : new int[] {1, MAX, MIN, -1}) {
                s.with(Ops.MAKE, DIR, 0, name);
            }
            int[] due = {MIN, -1, 1, Scene.INNER_NAME, MAX};
            for (int i = 0; i < due.length; i++) {
                s.valued(due[i], Ops.LIST, DIR, i);
            }
        });
        edge("LIST: a directory with all names that there can be", s -> {
            s.with(Ops.MOVE, INNER, ROOT, Scene.FREE_NAME, 21).with(Ops.MOVE, DIR, ROOT, Scene.INNER_NAME, 22);
            s.fillTo(32);
            s.valued(127, Ops.LIST, ROOT, 30);
            s.refused(Ops.ABSENT, Ops.LIST, ROOT, 31);
        });
    }
}
