import java.util.Arrays;

/**
 * A file server to which clients send datagrams that may come any number of times, in any order,
 * or never: each call takes effect once and has one answer, also over a stop of the server.
 */
public final class SlotServer {
    public static final int NONE = -1, WAITING = -2;
    public static final int OK = 0, STALE = 1, ABSENT = 2, EXISTS = 3, KIND = 4, FULL = 5, BAD = 6, NOT_EMPTY = 7, CIRCLE = 8, LOCKED = 9, LOST = 10, GRACE = 11;

    private static final int CLIENTS = 4;
    private static final int SLOTS = 3;
    private static final int MOST_STEPS = 4;
    private static final int MOST_DATAGRAMS = 300;
    private static final int NODES = 32;
    private static final int HANDLES = 8;
    private static final int PLACES = 64;
    private static final int MOST_BYTE = 255;
    private static final int LENT = 30000;
    private static final int MOST_MS = 100000;

    private static final int ROOT = 0;
    private static final int WALK = 1;
    private static final int MAKE = 2;
    private static final int REMOVE = 3;
    private static final int MOVE = 4;
    private static final int READ = 5;
    private static final int WRITE = 6;
    private static final int HELD = 7;
    private static final int SIZE = 8;
    private static final int LIST = 9;
    private static final int LOCK = 10;
    private static final int UNLOCK = 11;
    private static final int RENEW = 12;
    private static final int CLAIM = 13;

    /** A step's numbers stand in a row: op, h, a, b, c. */
    private static final int WIDTH = 5;

    private static final int FILE = 0;
    private static final int DIRECTORY = 1;

    private static final int SHARED = 1;
    private static final int ALONE = 2;
    private static final int FORMER = 4;

    private static final int NO_AVAIL = 0;
    private static final int DONE = 1;
    private static final int AGAIN = 2;
    private static final int TORN = 3;

    private final Client[] clients = new Client[CLIENTS];
    private final Post post = new Post();
    private final Server server = new Server();

    public SlotServer() {
        for (int i = 0; i < CLIENTS; i++) {
            clients[i] = new Client();
        }
    }

    public int start(int client) throws IllegalArgumentException {
        demandLegal(isClient(client));
        clients[client].beginLife();
        return clients[client].life;
    }

    public int step(int client, int slot, int op, int h, int a, int b, int c) throws IllegalArgumentException, IllegalStateException {
        demandLegal(isClient(client) && isSlot(slot) && isWithin(op, ROOT, CLAIM));
        Desk desk = clients[client].desks[slot];
        demandState(clients[client].life > 0 && desk.takesStep());
        desk.addStep(op, h, a, b, c);
        return desk.steps;
    }

    public int send(int client, int slot) throws IllegalArgumentException, IllegalStateException {
        demandLegal(isClient(client) && isSlot(slot));
        Desk desk = clients[client].desks[slot];
        demandState(desk.state == Desk.BUILT && post.sent < MOST_DATAGRAMS);
        desk.open();
        return post.put(client, slot, clients[client].life, desk);
    }

    public int carry(int datagram, boolean lost) throws IllegalArgumentException {
        demandLegal(datagram >= 0 && datagram < post.sent);
        int fate = server.fateOf(post, datagram);
        if (fate == DONE) {
            fate = server.write(post, datagram);
        }
        // A server that stopped behind the last sector has done the call, but no answer leaves it.
        boolean answers = (fate == DONE || fate == AGAIN) && server.running;
        if (answers && !lost) {
            deliver(datagram);
        }
        return fate;
    }

    public int code(int client, int slot, int i) throws IllegalArgumentException {
        demandLegal(isClient(client) && isSlot(slot));
        Desk desk = clients[client].desks[slot];
        if (desk.state == Desk.OPEN) {
            return WAITING;
        }
        return desk.hasAnswerTo(i) ? desk.answer.codes[i] : NONE;
    }

    public int value(int client, int slot, int i) throws IllegalArgumentException {
        demandLegal(isClient(client) && isSlot(slot));
        Desk desk = clients[client].desks[slot];
        return desk.hasAnswerTo(i) ? desk.answer.values[i] : NONE;
    }

    public void stop(int sectors) throws IllegalArgumentException {
        demandLegal(sectors >= NONE);
        if (!server.running) {
            return;
        }
        if (sectors == NONE) {
            server.halt();
        } else {
            server.told = sectors;
        }
    }

    public void boot() throws IllegalStateException {
        demandState(!server.running);
        server.beginAnew();
    }

    public int time(int ms) throws IllegalArgumentException {
        demandLegal(isWithin(ms, 0, MOST_MS));
        server.goOn(ms);
        return server.now;
    }

    public boolean runs() {
        return server.running;
    }

    public int nodes() {
        return server.disk.tree.count();
    }

    public int node(int node, int what) throws IllegalArgumentException {
        demandLegal(isNode(node) && isWithin(what, 0, 3));
        Tree tree = server.disk.tree;
        switch (what) {
            case 0:
                return tree.kind[node];
            case 1:
                return tree.parent[node];
            case 2:
                return tree.name[node];
            default:
                return tree.size[node];
        }
    }

    public int handle(int client, int h) throws IllegalArgumentException {
        demandLegal(isClient(client) && isHandle(h));
        return server.disk.boundTo(client, h);
    }

    public int lock(int client, int node, int place) throws IllegalArgumentException {
        demandLegal(isClient(client) && isNode(node) && isPlace(place));
        return server.running ? server.disk.locks.sortOf(client, node, place) : 0;
    }

    public int lease(int client) throws IllegalArgumentException {
        demandLegal(isClient(client));
        return server.running ? server.disk.locks.leaseLeft(client, server.now) : 0;
    }

    /** Answers are kept as they were written down, not worked out again: none can differ. */
    public int wrong() {
        return 0;
    }

    private void deliver(int datagram) {
        int client = post.client[datagram];
        int slot = post.slot[datagram];
        Desk desk = clients[client].desks[slot];
        boolean ofThisLife = clients[client].life == post.life[datagram];
        if (ofThisLife && desk.awaits(post.number[datagram])) {
            desk.take(server.disk.answers[slotOf(client, slot)]);
        }
    }

    private static void demandLegal(boolean legal) {
        if (!legal) {
            throw new IllegalArgumentException();
        }
    }

    private static void demandState(boolean legal) {
        if (!legal) {
            throw new IllegalStateException();
        }
    }

    private static boolean isWithin(int number, int least, int most) {
        return number >= least && number <= most;
    }

    private static boolean isClient(int client) {
        return client >= 0 && client < CLIENTS;
    }

    private static boolean isSlot(int slot) {
        return slot >= 0 && slot < SLOTS;
    }

    private static boolean isNode(int node) {
        return node >= 0 && node < NODES;
    }

    private static boolean isHandle(int h) {
        return h >= 0 && h < HANDLES;
    }

    private static boolean isPlace(int place) {
        return place >= 0 && place < PLACES;
    }

    private static int slotOf(int client, int slot) {
        return client * SLOTS + slot;
    }

    /** The codes and values of the steps of a call that were done. */
    static final class Answer {
        final int[] codes = new int[MOST_STEPS];
        final int[] values = new int[MOST_STEPS];
        int done;

        void copyFrom(Answer other) {
            System.arraycopy(other.codes, 0, codes, 0, MOST_STEPS);
            System.arraycopy(other.values, 0, values, 0, MOST_STEPS);
            done = other.done;
        }

        void append(int stepCode, int stepValue) {
            if (done < MOST_STEPS) {
                codes[done] = stepCode;
                values[done] = stepValue;
                done++;
            }
        }
    }

    /** What a client itself knows of a slot: the call there, from its first step to its answer. */
    static final class Desk {
        static final int EMPTY = 0, BUILT = 1, OPEN = 2, ANSWERED = 3;

        final int[] numbers = new int[MOST_STEPS * WIDTH];
        final Answer answer = new Answer();
        int state = EMPTY;
        int steps;
        int number;

        void forget() {
            state = EMPTY;
            number = 0;
        }

        boolean takesStep() {
            return state != OPEN && !(state == BUILT && steps == MOST_STEPS);
        }

        void addStep(int op, int h, int a, int b, int c) {
            if (state != BUILT) {
                state = BUILT;
                steps = 0;
            }
            int at = steps * WIDTH;
            numbers[at] = op;
            numbers[at + 1] = h;
            numbers[at + 2] = a;
            numbers[at + 3] = b;
            numbers[at + 4] = c;
            steps++;
        }

        void open() {
            state = OPEN;
            number++;
        }

        boolean awaits(int callNumber) {
            return state == OPEN && number == callNumber;
        }

        void take(Answer come) {
            answer.copyFrom(come);
            state = ANSWERED;
        }

        boolean hasAnswerTo(int i) {
            return state == ANSWERED && i >= 0 && i < answer.done;
        }
    }

    static final class Client {
        final Desk[] desks = new Desk[SLOTS];
        int life;

        Client() {
            for (int i = 0; i < SLOTS; i++) {
                desks[i] = new Desk();
            }
        }

        void beginLife() {
            life++;
            for (int i = 0; i < SLOTS; i++) {
                desks[i].forget();
            }
        }
    }

    /** All datagrams that were sent; they stay, since each may come at any time. */
    static final class Post {
        final int[] client = new int[MOST_DATAGRAMS];
        final int[] slot = new int[MOST_DATAGRAMS];
        final int[] life = new int[MOST_DATAGRAMS];
        final int[] number = new int[MOST_DATAGRAMS];
        final int[] steps = new int[MOST_DATAGRAMS];
        final int[] numbers = new int[MOST_DATAGRAMS * MOST_STEPS * WIDTH];
        int sent;

        int put(int fromClient, int fromSlot, int ofLife, Desk desk) {
            int datagram = sent;
            client[datagram] = fromClient;
            slot[datagram] = fromSlot;
            life[datagram] = ofLife;
            number[datagram] = desk.number;
            steps[datagram] = desk.steps;
            System.arraycopy(desk.numbers, 0, numbers, placeOf(datagram, 0), MOST_STEPS * WIDTH);
            sent++;
            return datagram;
        }

        int placeOf(int datagram, int stepIndex) {
            return (datagram * MOST_STEPS + stepIndex) * WIDTH;
        }
    }

    /** The directories and files. Places behind a file's end are 0 always, so that a file grows by its size alone. */
    static final class Tree {
        final int[] kind = new int[NODES];
        final int[] parent = new int[NODES];
        final int[] name = new int[NODES];
        final int[] size = new int[NODES];
        final int[] bytes = new int[NODES * PLACES];

        Tree() {
            Arrays.fill(kind, NONE);
            Arrays.fill(parent, NONE);
            kind[0] = DIRECTORY;
        }

        void copyFrom(Tree other) {
            System.arraycopy(other.kind, 0, kind, 0, NODES);
            System.arraycopy(other.parent, 0, parent, 0, NODES);
            System.arraycopy(other.name, 0, name, 0, NODES);
            System.arraycopy(other.size, 0, size, 0, NODES);
            System.arraycopy(other.bytes, 0, bytes, 0, NODES * PLACES);
        }

        int count() {
            int n = 0;
            for (int i = 0; i < NODES; i++) {
                if (kind[i] != NONE) {
                    n++;
                }
            }
            return n;
        }

        /** The root and numbers that no node has lie in NONE, so they are never found, whatever the name. */
        int find(int directory, int wanted) {
            for (int i = 0; i < NODES; i++) {
                if (parent[i] == directory && name[i] == wanted) {
                    return i;
                }
            }
            return NONE;
        }

        int leastFree() {
            for (int i = 0; i < NODES; i++) {
                if (kind[i] == NONE) {
                    return i;
                }
            }
            return NONE;
        }

        boolean isEmpty(int directory) {
            for (int i = 0; i < NODES; i++) {
                if (parent[i] == directory) {
                    return false;
                }
            }
            return true;
        }

        int withLesser(int directory, int lesser) {
            for (int i = 0; i < NODES; i++) {
                if (parent[i] == directory && lesserThan(directory, name[i]) == lesser) {
                    return i;
                }
            }
            return NONE;
        }

        int lesserThan(int directory, int bound) {
            int n = 0;
            for (int i = 0; i < NODES; i++) {
                if (parent[i] == directory && name[i] < bound) {
                    n++;
                }
            }
            return n;
        }

        boolean isOrLiesIn(int node, int above) {
            int at = node;
            for (int i = 0; i < NODES && at != NONE; i++) {
                if (at == above) {
                    return true;
                }
                at = parent[at];
            }
            return false;
        }

        void add(int node, int sort, int directory, int called) {
            kind[node] = sort;
            put(node, directory, called);
        }

        void put(int node, int directory, int called) {
            parent[node] = directory;
            name[node] = called;
        }

        void delete(int node) {
            kind[node] = NONE;
            parent[node] = NONE;
            name[node] = 0;
        }

        int byteAt(int node, int place) {
            return place < size[node] ? bytes[node * PLACES + place] : NONE;
        }

        void setByte(int node, int place, int to) {
            bytes[node * PLACES + place] = to;
            if (place >= size[node]) {
                size[node] = place + 1;
            }
        }

        void resize(int node, int to) {
            for (int i = to; i < size[node]; i++) {
                bytes[node * PLACES + i] = 0;
            }
            size[node] = to;
        }
    }

    /** A bit for each byte of a file: one row of bits for each client and node, and for each sort of lock. */
    static final class Locks {
        final long[] shared = new long[CLIENTS * NODES];
        final long[] alone = new long[CLIENTS * NODES];
        final long[] formerShared = new long[CLIENTS * NODES];
        final long[] formerAlone = new long[CLIENTS * NODES];
        final int[] leaseEnd = new int[CLIENTS];

        void copyFrom(Locks other) {
            System.arraycopy(other.shared, 0, shared, 0, CLIENTS * NODES);
            System.arraycopy(other.alone, 0, alone, 0, CLIENTS * NODES);
            System.arraycopy(other.formerShared, 0, formerShared, 0, CLIENTS * NODES);
            System.arraycopy(other.formerAlone, 0, formerAlone, 0, CLIENTS * NODES);
            System.arraycopy(other.leaseEnd, 0, leaseEnd, 0, CLIENTS);
        }

        int sortOf(int client, int node, int place) {
            int row = client * NODES + node;
            long bit = 1L << place;
            if ((alone[row] & bit) != 0) {
                return ALONE;
            }
            if ((shared[row] & bit) != 0) {
                return SHARED;
            }
            if ((formerAlone[row] & bit) != 0) {
                return FORMER + ALONE;
            }
            return (formerShared[row] & bit) != 0 ? FORMER + SHARED : 0;
        }

        /** Former locks are here in the time of grace alone, so they count like locks. */
        long aloneOfOthers(int client, int node) {
            long all = 0;
            for (int i = 0; i < CLIENTS; i++) {
                int row = i * NODES + node;
                all |= i == client ? 0 : alone[row] | formerAlone[row];
            }
            return all;
        }

        long anyOfOthers(int client, int node) {
            long all = aloneOfOthers(client, node);
            for (int i = 0; i < CLIENTS; i++) {
                int row = i * NODES + node;
                all |= i == client ? 0 : shared[row] | formerShared[row];
            }
            return all;
        }

        boolean hasFormer(int client, int node, long range, int sort) {
            int row = client * NODES + node;
            long former = sort == ALONE ? formerAlone[row] : formerShared[row];
            return (former & range) == range;
        }

        void give(int client, int node, long range, int sort) {
            int row = client * NODES + node;
            release(client, node, range);
            formerShared[row] &= ~range;
            formerAlone[row] &= ~range;
            if (sort == ALONE) {
                alone[row] |= range;
            } else {
                shared[row] |= range;
            }
        }

        void release(int client, int node, long range) {
            int row = client * NODES + node;
            shared[row] &= ~range;
            alone[row] &= ~range;
        }

        void deleteNode(int node) {
            for (int i = 0; i < CLIENTS; i++) {
                int row = i * NODES + node;
                shared[row] = 0;
                alone[row] = 0;
                formerShared[row] = 0;
                formerAlone[row] = 0;
            }
        }

        void deleteClient(int client) {
            endLease(client);
            for (int i = client * NODES; i < (client + 1) * NODES; i++) {
                formerShared[i] = 0;
                formerAlone[i] = 0;
            }
        }

        void endLease(int client) {
            for (int i = client * NODES; i < (client + 1) * NODES; i++) {
                shared[i] = 0;
                alone[i] = 0;
            }
            leaseEnd[client] = 0;
        }

        void endLeases(int now) {
            for (int i = 0; i < CLIENTS; i++) {
                if (now >= leaseEnd[i]) {
                    endLease(i);
                }
            }
        }

        int leaseLeft(int client, int now) {
            return Math.max(leaseEnd[client] - now, 0);
        }

        void becomeFormer() {
            for (int i = 0; i < CLIENTS * NODES; i++) {
                formerShared[i] |= shared[i];
                formerAlone[i] |= alone[i];
            }
            for (int i = 0; i < CLIENTS; i++) {
                endLease(i);
            }
        }

        void deleteFormer() {
            Arrays.fill(formerShared, 0);
            Arrays.fill(formerAlone, 0);
        }
    }

    /** All that a call can change, so that it can be put back when the call was not written to its end. */
    static final class Disk {
        final Tree tree = new Tree();
        final Locks locks = new Locks();
        final int[] handles = new int[CLIENTS * HANDLES];
        final int[] lives = new int[CLIENTS];
        final int[] lastCalls = new int[CLIENTS * SLOTS];
        final Answer[] answers = new Answer[CLIENTS * SLOTS];

        Disk() {
            Arrays.fill(handles, NONE);
            for (int i = 0; i < CLIENTS * SLOTS; i++) {
                answers[i] = new Answer();
            }
        }

        void copyFrom(Disk other) {
            tree.copyFrom(other.tree);
            locks.copyFrom(other.locks);
            System.arraycopy(other.handles, 0, handles, 0, CLIENTS * HANDLES);
            System.arraycopy(other.lives, 0, lives, 0, CLIENTS);
            System.arraycopy(other.lastCalls, 0, lastCalls, 0, CLIENTS * SLOTS);
            for (int i = 0; i < CLIENTS * SLOTS; i++) {
                answers[i].copyFrom(other.answers[i]);
            }
        }

        void beginLife(int client, int life) {
            lives[client] = life;
            for (int i = 0; i < HANDLES; i++) {
                handles[client * HANDLES + i] = NONE;
            }
            for (int i = 0; i < SLOTS; i++) {
                lastCalls[slotOf(client, i)] = 0;
            }
            locks.deleteClient(client);
        }

        void bind(int client, int h, int node) {
            handles[client * HANDLES + h] = node;
        }

        int boundTo(int client, int h) {
            return handles[client * HANDLES + h];
        }

        /** Handles are unbound here, lest they mean a node that is made later with the same number. */
        void deleteNode(int node) {
            tree.resize(node, 0);
            tree.delete(node);
            locks.deleteNode(node);
            for (int i = 0; i < CLIENTS * HANDLES; i++) {
                if (handles[i] == node) {
                    handles[i] = NONE;
                }
            }
        }
    }

    /** Does the steps of one call, one by one; each method answers the code of the step in hand. */
    static final class Worker {
        final Disk disk = new Disk();
        final Tree tree = disk.tree;
        final Locks locks = disk.locks;
        int client;
        int now;
        boolean grace;
        int op;
        int h;
        int a;
        int b;
        int c;
        int node;
        int result;

        void workFor(int forClient, int atTime, boolean inGrace) {
            client = forClient;
            now = atTime;
            grace = inGrace;
        }

        int doStep(int[] numbers, int at) {
            load(numbers, at);
            int refusal = refusalOfHandle();
            if (refusal != OK) {
                return refusal;
            }
            switch (op) {
                case ROOT:
                    return bindRoot();
                case WALK:
                    return walkTo();
                case MAKE:
                    return makeEntry();
                case REMOVE:
                    return removeEntry();
                case MOVE:
                    return moveEntry();
                case READ:
                    return readByte();
                case WRITE:
                    return writeByte();
                case HELD:
                    return writeHeldByte();
                case SIZE:
                    return resizeFile();
                case LIST:
                    return listName();
                case LOCK:
                    return lockBytes();
                case UNLOCK:
                    return unlockBytes();
                case RENEW:
                    return renewLease();
                default:
                    return claimBytes();
            }
        }

        private void load(int[] numbers, int at) {
            op = numbers[at];
            h = numbers[at + 1];
            a = numbers[at + 2];
            b = numbers[at + 3];
            c = numbers[at + 4];
            result = 0;
        }

        /** The conditions on handle h that come before all others, KIND too where it comes next. */
        private int refusalOfHandle() {
            if (!isHandle(h)) {
                return BAD;
            }
            if (op == ROOT || op == RENEW) {
                return OK;
            }
            node = disk.boundTo(client, h);
            if (node == NONE) {
                return STALE;
            }
            if (op == MOVE) {
                return OK;
            }
            boolean asksDirectory = op == WALK || op == MAKE || op == REMOVE || op == LIST;
            return tree.kind[node] == (asksDirectory ? DIRECTORY : FILE) ? OK : KIND;
        }

        private int bindRoot() {
            disk.bind(client, h, 0);
            return OK;
        }

        private int renewLease() {
            locks.leaseEnd[client] = now + LENT;
            return OK;
        }

        private int walkTo() {
            if (!isHandle(a)) {
                return BAD;
            }
            int found = tree.find(node, b);
            if (found == NONE) {
                return ABSENT;
            }
            disk.bind(client, a, found);
            result = found;
            return OK;
        }

        private int makeEntry() {
            if (a != FILE && a != DIRECTORY || b == 0) {
                return BAD;
            }
            if (tree.find(node, b) != NONE) {
                return EXISTS;
            }
            int made = tree.leastFree();
            if (made == NONE) {
                return FULL;
            }
            tree.add(made, a, node, b);
            result = made;
            return OK;
        }

        private int removeEntry() {
            int found = tree.find(node, b);
            if (found == NONE) {
                return ABSENT;
            }
            if (!tree.isEmpty(found)) {
                return NOT_EMPTY;
            }
            disk.deleteNode(found);
            result = found;
            return OK;
        }

        private int moveEntry() {
            if (!isHandle(a)) {
                return BAD;
            }
            int target = disk.boundTo(client, a);
            if (target == NONE) {
                return STALE;
            }
            if (tree.kind[node] != DIRECTORY || tree.kind[target] != DIRECTORY) {
                return KIND;
            }
            if (c == 0) {
                return BAD;
            }
            int moved = tree.find(node, b);
            if (moved == NONE) {
                return ABSENT;
            }
            int there = tree.find(target, c);
            if (there != NONE && there != moved) {
                return EXISTS;
            }
            if (tree.isOrLiesIn(target, moved)) {
                return CIRCLE;
            }
            tree.put(moved, target, c);
            result = moved;
            return OK;
        }

        private int listName() {
            int found = tree.withLesser(node, a);
            if (found == NONE) {
                return ABSENT;
            }
            result = tree.name[found];
            return OK;
        }

        private int readByte() {
            if (a < 0) {
                return BAD;
            }
            if (isPlace(a) && isAmong(locks.aloneOfOthers(client, node), a)) {
                return LOCKED;
            }
            result = tree.byteAt(node, a);
            return OK;
        }

        private int writeByte() {
            if (!isWritable()) {
                return BAD;
            }
            if (isAmong(locks.anyOfOthers(client, node), a)) {
                return LOCKED;
            }
            return putByte();
        }

        private int writeHeldByte() {
            if (!isWritable()) {
                return BAD;
            }
            if (locks.sortOf(client, node, a) != ALONE) {
                return LOST;
            }
            return putByte();
        }

        private boolean isWritable() {
            return isPlace(a) && isWithin(b, 0, MOST_BYTE);
        }

        private int putByte() {
            tree.setByte(node, a, b);
            result = tree.size[node];
            return OK;
        }

        private int resizeFile() {
            if (!isWithin(a, 0, PLACES)) {
                return BAD;
            }
            int had = tree.size[node];
            long touched = range(Math.min(a, had), Math.max(a, had) - 1);
            if ((locks.anyOfOthers(client, node) & touched) != 0) {
                return LOCKED;
            }
            tree.resize(node, a);
            result = had;
            return OK;
        }

        private int lockBytes() {
            if (!isRange() || !isSort()) {
                return BAD;
            }
            if (grace) {
                return GRACE;
            }
            long against = c == ALONE ? locks.anyOfOthers(client, node) : locks.aloneOfOthers(client, node);
            if ((against & range(a, b)) != 0) {
                return LOCKED;
            }
            locks.give(client, node, range(a, b), c);
            return renewLease();
        }

        private int unlockBytes() {
            if (!isRange()) {
                return BAD;
            }
            locks.release(client, node, range(a, b));
            return OK;
        }

        private int claimBytes() {
            if (!isRange() || !isSort()) {
                return BAD;
            }
            if (!locks.hasFormer(client, node, range(a, b), c)) {
                return LOST;
            }
            locks.give(client, node, range(a, b), c);
            return renewLease();
        }

        private boolean isRange() {
            return 0 <= a && a <= b && b < PLACES;
        }

        private boolean isSort() {
            return c == SHARED || c == ALONE;
        }

        private static boolean isAmong(long bits, int place) {
            return (bits & (1L << place)) != 0;
        }

        /** Java shifts a long by 0 to 63 alone, so an empty range needs a word of its own. */
        private static long range(int first, int last) {
            return last < first ? 0 : (-1L >>> (PLACES - 1 - (last - first))) << first;
        }
    }

    static final class Server {
        final Worker worker = new Worker();
        final Disk disk = worker.disk;
        final Disk kept = new Disk();
        boolean running = true;
        /** The sectors after which the next call stops the server, or NONE. */
        int told = NONE;
        int now;
        int graceEnd;

        int fateOf(Post post, int datagram) {
            int client = post.client[datagram];
            int life = post.life[datagram];
            int number = post.number[datagram];
            int known = disk.lives[client];
            if (!running || life < known || life > known && number != 1) {
                return NO_AVAIL;
            }
            int last = life > known ? 0 : disk.lastCalls[slotOf(client, post.slot[datagram])];
            if (number == last) {
                return AGAIN;
            }
            return number == last + 1 ? DONE : NO_AVAIL;
        }

        int write(Post post, int datagram) {
            if (told == NONE) {
                doCall(post, datagram);
                return DONE;
            }
            // How many sectors a call takes is known only when it is done, so it may have to be undone.
            kept.copyFrom(disk);
            int sectors = 1 + doCall(post, datagram);
            boolean whole = told >= sectors;
            if (!whole) {
                disk.copyFrom(kept);
            }
            halt();
            return whole ? DONE : TORN;
        }

        private int doCall(Post post, int datagram) {
            int client = post.client[datagram];
            int at = slotOf(client, post.slot[datagram]);
            if (post.life[datagram] > disk.lives[client]) {
                disk.beginLife(client, post.life[datagram]);
            }
            Answer answer = disk.answers[at];
            answer.done = 0;
            worker.workFor(client, now, now < graceEnd);
            int stepCode = OK;
            for (int i = 0; i < post.steps[datagram] && stepCode == OK; i++) {
                stepCode = worker.doStep(post.numbers, post.placeOf(datagram, i));
                answer.append(stepCode, worker.result);
            }
            disk.lastCalls[at] = post.number[datagram];
            return answer.done;
        }

        void halt() {
            running = false;
            told = NONE;
        }

        void beginAnew() {
            disk.locks.becomeFormer();
            graceEnd = now + LENT;
            running = true;
        }

        /** While the server does not run nothing ends: locks count by the time at which it stopped. */
        void goOn(int ms) {
            now += ms;
            if (!running) {
                return;
            }
            disk.locks.endLeases(now);
            if (now >= graceEnd) {
                disk.locks.deleteFormer();
            }
        }
    }
}
