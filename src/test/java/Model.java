import java.util.ArrayList;
import java.util.HashMap;
import java.util.List;
import java.util.Map;
import java.util.TreeMap;

/**
 * The document told a second time, with other means than the program's: the server's state is worked out anew from the
 * list of what happened to it whenever a call was torn or the server begins anew; locks hang on lease objects and are
 * looked at with the time of the question; handles hold the node itself.
 */
final class Model {
    private static final int NONE = -1;

    /** A call on the face that throws; told by its number as in the shared tests. */
    static final int ARGUMENT = 1, STATE = 2;

    static final class Refused extends RuntimeException {
        private static final long serialVersionUID = 1L;
        final int kind;

        Refused(int kind) {
            super(null, null, false, false);
            this.kind = kind;
        }
    }

    static final class Node {
        final int number;
        final boolean directory;
        Node parent;
        int name;
        boolean gone;
        final List<Integer> bytes = new ArrayList<>();
        final TreeMap<Integer, Node> entries = new TreeMap<>();
        final Lock[][] locks = new Lock[4][64];

        Node(int number, boolean directory) {
            this.number = number;
            this.directory = directory;
        }
    }

    static final class Lease {
        int end;
    }

    /** A lock without a lease is a former one. */
    static final class Lock {
        int sort;
        Lease lease;
    }

    static final class Datagram {
        int client, slot, life, number;
        List<int[]> steps;
    }

    static final class Event {
        Datagram call;
        boolean boot;
        int time;
    }

    /** The server as its events made it. */
    static final class State {
        final Node[] nodes = new Node[32];
        final Map<Integer, Node> handles = new HashMap<>();
        final int[] lives = new int[4];
        final Lease[] leases = new Lease[4];
        final Map<Integer, Integer> last = new HashMap<>();
        final Map<Integer, List<int[]>> answers = new HashMap<>();
        int graceEnd;
        int now;

        State() {
            nodes[0] = new Node(0, true);
            for (int i = 0; i < 4; i++) {
                leases[i] = new Lease();
            }
        }

        Node bound(int client, int h) {
            Node n = handles.get(client * 10 + h);
            return n == null || n.gone ? null : n;
        }

        /** 0, 1, 2, 5, 6 as the face tells it. */
        int lockOf(int client, Node n, int place) {
            Lock l = n.locks[client][place];
            if (l == null) {
                return 0;
            }
            if (l.lease == null) {
                return now < graceEnd ? l.sort + 4 : 0;
            }
            return now < l.lease.end ? l.sort : 0;
        }

        boolean othersLock(int client, Node n, int place, boolean onlyAlone) {
            for (int i = 0; i < 4; i++) {
                int l = i == client ? 0 : lockOf(i, n, place) % 4;
                if (l == 2 || l == 1 && !onlyAlone) {
                    return true;
                }
            }
            return false;
        }

        void apply(Event e) {
            now = e.time;
            if (e.call != null) {
                doCall(e.call);
            }
            if (e.boot) {
                begin();
            }
        }

        /** The stop's time is that of the event before it, which the caller put there. */
        void stopped(int time) {
            now = time;
            for (Node n : nodes) {
                for (int c = 0; n != null && c < 4; c++) {
                    for (int p = 0; p < 64; p++) {
                        int l = lockOf(c, n, p);
                        n.locks[c][p] = null;
                        if (l != 0) {
                            n.locks[c][p] = new Lock();
                            n.locks[c][p].sort = l % 4;
                        }
                    }
                }
            }
            for (int i = 0; i < 4; i++) {
                leases[i] = new Lease();
            }
        }

        void begin() {
            graceEnd = now + 30000;
        }

        void doCall(Datagram d) {
            if (d.life > lives[d.client]) {
                lives[d.client] = d.life;
                for (int h = 0; h < 8; h++) {
                    handles.remove(d.client * 10 + h);
                }
                for (Node n : nodes) {
                    if (n != null) {
                        n.locks[d.client] = new Lock[64];
                    }
                }
                leases[d.client] = new Lease();
                for (int s = 0; s < 3; s++) {
                    last.remove(d.client * 10 + s);
                    answers.remove(d.client * 10 + s);
                }
            }
            List<int[]> answer = new ArrayList<>();
            for (int[] s : d.steps) {
                int[] got = doStep(d.client, s[0], s[1], s[2], s[3], s[4]);
                answer.add(got);
                if (got[0] != 0) {
                    break;
                }
            }
            last.put(d.client * 10 + d.slot, d.number);
            answers.put(d.client * 10 + d.slot, answer);
        }

        static int[] code(int code) {
            return new int[] {code, 0};
        }

        static int[] ok(int value) {
            return new int[] {0, value};
        }

        int[] doStep(int client, int op, int h, int a, int b, int c) {
            if (h < 0 || h > 7) {
                return code(SlotServer.BAD);
            }
            if (op == 0) {
                handles.put(client * 10 + h, nodes[0]);
                return ok(0);
            }
            if (op == 12) {
                renew(client);
                return ok(0);
            }
            Node n = bound(client, h);
            if (n == null) {
                return code(SlotServer.STALE);
            }
            if (op == 4) {
                return move(client, n, a, b, c);
            }
            if (op == 1 || op == 2 || op == 3 || op == 9) {
                return n.directory ? inDirectory(client, op, n, a, b) : code(SlotServer.KIND);
            }
            if (n.directory) {
                return code(SlotServer.KIND);
            }
            return op >= 10 ? onLocks(client, op, n, a, b, c) : onBytes(client, op, n, a, b);
        }

        void renew(int client) {
            if (now >= leases[client].end) {
                leases[client] = new Lease();
            }
            leases[client].end = now + 30000;
        }

        int[] move(int client, Node from, int a, int b, int c) {
            if (a < 0 || a > 7) {
                return code(SlotServer.BAD);
            }
            Node to = bound(client, a);
            if (to == null) {
                return code(SlotServer.STALE);
            }
            if (!from.directory || !to.directory) {
                return code(SlotServer.KIND);
            }
            if (c == 0) {
                return code(SlotServer.BAD);
            }
            Node moved = from.entries.get(b);
            if (moved == null) {
                return code(SlotServer.ABSENT);
            }
            if (to.entries.containsKey(c) && to.entries.get(c) != moved) {
                return code(SlotServer.EXISTS);
            }
            for (Node up = to; up != null; up = up.parent) {
                if (up == moved) {
                    return code(SlotServer.CIRCLE);
                }
            }
            from.entries.remove(b);
            to.entries.put(c, moved);
            moved.parent = to;
            moved.name = c;
            return ok(moved.number);
        }

        int[] inDirectory(int client, int op, Node dir, int a, int b) {
            Node named = dir.entries.get(b);
            if (op == 1) {
                if (a < 0 || a > 7) {
                    return code(SlotServer.BAD);
                }
                if (named == null) {
                    return code(SlotServer.ABSENT);
                }
                handles.put(client * 10 + a, named);
                return ok(named.number);
            }
            if (op == 2) {
                return make(dir, a, b);
            }
            if (op == 3) {
                if (named == null) {
                    return code(SlotServer.ABSENT);
                }
                if (!named.entries.isEmpty()) {
                    return code(SlotServer.NOT_EMPTY);
                }
                named.gone = true;
                nodes[named.number] = null;
                dir.entries.remove(b);
                return ok(named.number);
            }
            List<Integer> names = new ArrayList<>(dir.entries.keySet());
            return a >= 0 && a < names.size() ? ok(names.get(a)) : code(SlotServer.ABSENT);
        }

        int[] make(Node dir, int a, int b) {
            if (a < 0 || a > 1 || b == 0) {
                return code(SlotServer.BAD);
            }
            if (dir.entries.containsKey(b)) {
                return code(SlotServer.EXISTS);
            }
            for (int i = 0; i < 32; i++) {
                if (nodes[i] == null) {
                    nodes[i] = new Node(i, a == 1);
                    nodes[i].parent = dir;
                    nodes[i].name = b;
                    dir.entries.put(b, nodes[i]);
                    return ok(i);
                }
            }
            return code(SlotServer.FULL);
        }

        int[] onBytes(int client, int op, Node file, int a, int b) {
            int had = file.bytes.size();
            if (op == 5) {
                if (a < 0) {
                    return code(SlotServer.BAD);
                }
                if (a < 64 && othersLock(client, file, a, true)) {
                    return code(SlotServer.LOCKED);
                }
                return ok(a < had ? file.bytes.get(a) : -1);
            }
            if (op == 8) {
                if (a < 0 || a > 64) {
                    return code(SlotServer.BAD);
                }
                for (int p = 0; p < 64; p++) {
                    if ((p < a) != (p < had) && othersLock(client, file, p, false)) {
                        return code(SlotServer.LOCKED);
                    }
                }
                resize(file, a);
                return ok(had);
            }
            if (a < 0 || a > 63 || b < 0 || b > 255) {
                return code(SlotServer.BAD);
            }
            if (op == 6 && othersLock(client, file, a, false)) {
                return code(SlotServer.LOCKED);
            }
            if (op == 7 && lockOf(client, file, a) != 2) {
                return code(SlotServer.LOST);
            }
            if (a >= had) {
                resize(file, a + 1);
            }
            file.bytes.set(a, b);
            return ok(file.bytes.size());
        }

        void resize(Node file, int to) {
            while (file.bytes.size() > to) {
                file.bytes.remove(file.bytes.size() - 1);
            }
            while (file.bytes.size() < to) {
                file.bytes.add(0);
            }
        }

        int[] onLocks(int client, int op, Node file, int a, int b, int c) {
            if (a < 0 || a > b || b > 63 || op != 11 && c != 1 && c != 2) {
                return code(SlotServer.BAD);
            }
            if (op == 10 && now < graceEnd) {
                return code(SlotServer.GRACE);
            }
            for (int p = a; p <= b; p++) {
                if (op == 10 && othersLock(client, file, p, c == 1)) {
                    return code(SlotServer.LOCKED);
                }
                if (op == 13 && lockOf(client, file, p) != c + 4) {
                    return code(SlotServer.LOST);
                }
            }
            if (op != 11) {
                renew(client);
            }
            for (int p = a; p <= b; p++) {
                if (op == 11) {
                    if (lockOf(client, file, p) < 4) {
                        file.locks[client][p] = null;
                    }
                } else {
                    file.locks[client][p] = new Lock();
                    file.locks[client][p].sort = c;
                    file.locks[client][p].lease = leases[client];
                }
            }
            return ok(0);
        }
    }

    private final int[] lives = new int[4];
    private final Map<Integer, List<int[]>> built = new HashMap<>();
    private final Map<Integer, Datagram> open = new HashMap<>();
    private final Map<Integer, List<int[]>> answered = new HashMap<>();
    private final Map<Integer, Integer> numbers = new HashMap<>();
    private final List<Datagram> sent = new ArrayList<>();
    private final List<Event> events = new ArrayList<>();
    private State state = new State();
    private boolean running = true;
    private int told = NONE;
    private int now;

    private static void legal(boolean yes) {
        if (!yes) {
            throw new Refused(ARGUMENT);
        }
    }

    private static void possible(boolean yes) {
        if (!yes) {
            throw new Refused(STATE);
        }
    }

    private static int key(int client, int slot) {
        legal(client >= 0 && client < 4 && slot >= 0 && slot < 3);
        return client * 10 + slot;
    }

    int start(int client) {
        int first = key(client, 0);
        for (int k = first; k < first + 3; k++) {
            built.remove(k);
            open.remove(k);
            answered.remove(k);
            numbers.remove(k);
        }
        return ++lives[client];
    }

    int step(int client, int slot, int[] s) {
        int k = key(client, slot);
        legal(s[0] >= 0 && s[0] <= 13);
        possible(lives[client] > 0 && !open.containsKey(k));
        possible(!built.containsKey(k) || built.get(k).size() < 4);
        answered.remove(k);
        built.computeIfAbsent(k, x -> new ArrayList<>()).add(s);
        return built.get(k).size();
    }

    int send(int client, int slot) {
        int k = key(client, slot);
        possible(built.containsKey(k) && sent.size() < 300);
        Datagram d = new Datagram();
        d.client = client;
        d.slot = slot;
        d.life = lives[client];
        d.number = numbers.merge(k, 1, Integer::sum);
        d.steps = built.remove(k);
        sent.add(d);
        open.put(k, d);
        return sent.size() - 1;
    }

    int carry(int datagram, boolean lost) {
        legal(datagram >= 0 && datagram < sent.size());
        Datagram d = sent.get(datagram);
        int k = d.client * 10 + d.slot;
        if (!running || d.life < state.lives[d.client]) {
            return 0;
        }
        boolean fresh = d.life > state.lives[d.client];
        if (fresh && d.number != 1) {
            return 0;
        }
        int last = fresh ? 0 : state.last.getOrDefault(k, 0);
        if (d.number != last && d.number != last + 1) {
            return 0;
        }
        int fate = d.number == last ? 2 : perform(d, k);
        if (fate != 3 && running && !lost && open.get(k) == d) {
            open.remove(k);
            answered.put(k, state.answers.get(k));
        }
        return fate;
    }

    private int perform(Datagram d, int k) {
        Event e = new Event();
        e.call = d;
        e.time = now;
        state.apply(e);
        int sectors = 1 + state.answers.get(k).size();
        if (told == NONE) {
            events.add(e);
            return 1;
        }
        boolean whole = told >= sectors;
        if (whole) {
            events.add(e);
        }
        halt();
        return whole ? 1 : 3;
    }

    private void halt() {
        running = false;
        told = NONE;
        Event e = new Event();
        e.time = now;
        events.add(e);
        replay();
    }

    /** An event that is neither a call nor a begin is a stop. */
    private void replay() {
        state = new State();
        for (Event e : events) {
            if (e.call == null && !e.boot) {
                state.stopped(e.time);
            } else {
                state.apply(e);
            }
        }
    }

    int code(int client, int slot, int i) {
        int k = key(client, slot);
        if (open.containsKey(k)) {
            return -2;
        }
        List<int[]> answer = answered.get(k);
        return answer == null || i < 0 || i >= answer.size() ? NONE : answer.get(i)[0];
    }

    int value(int client, int slot, int i) {
        return code(client, slot, i) < 0 ? NONE : answered.get(key(client, slot)).get(i)[1];
    }

    int stop(int sectors) {
        legal(sectors >= NONE);
        if (running && sectors == NONE) {
            halt();
        } else if (running) {
            told = sectors;
        }
        return 0;
    }

    int boot() {
        possible(!running);
        running = true;
        Event e = new Event();
        e.boot = true;
        e.time = now;
        events.add(e);
        replay();
        return 0;
    }

    int time(int ms) {
        legal(ms >= 0 && ms <= 100000);
        now += ms;
        state.now = now;
        return now;
    }

    int runs() {
        return running ? 1 : 0;
    }

    int nodes() {
        int n = 0;
        for (Node node : state.nodes) {
            n += node == null ? 0 : 1;
        }
        return n;
    }

    int node(int node, int what) {
        legal(node >= 0 && node < 32 && what >= 0 && what < 4);
        Node n = state.nodes[node];
        switch (what) {
            case 0:
                return n == null ? NONE : n.directory ? 1 : 0;
            case 1:
                return n == null || n.parent == null ? NONE : n.parent.number;
            case 2:
                return n == null ? 0 : n.name;
            default:
                return n == null ? 0 : n.bytes.size();
        }
    }

    int handle(int client, int h) {
        key(client, 0);
        legal(h >= 0 && h < 8);
        Node n = state.bound(client, h);
        return n == null ? NONE : n.number;
    }

    int lock(int client, int node, int place) {
        key(client, 0);
        legal(node >= 0 && node < 32 && place >= 0 && place < 64);
        return !running || state.nodes[node] == null ? 0 : state.lockOf(client, state.nodes[node], place);
    }

    int lease(int client) {
        key(client, 0);
        return running ? Math.max(0, state.leases[client].end - now) : 0;
    }
}
