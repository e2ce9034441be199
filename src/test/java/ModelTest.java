import java.util.Arrays;
import java.util.Random;

/** Long runs of calls by fixed seeds, each answer compared with that of the model; all promises at once. */
public final class ModelTest {
    private static final int RUNS = 6000;
    private static final int CALLS = 512;
    private static final int[] TIMES = {0, 1, 1, 5, 9999, 10000, 14999, 15001, 20000, 29999, 30000, 100000, -1, 100001};
    private static final int[] NAMES = {1, 2, 3, 4, -1, Integer.MIN_VALUE, Integer.MAX_VALUE, 0};
    private static final int FILE = 0, DIRECTORY = 1;
    private static final Check check = new Check();
    private final Random random;
    private final boolean manyNodes;
    private final boolean manyLocks;
    private final int clients;
    private final SlotServer x = new SlotServer();
    private final Model model = new Model();
    private final String name;
    private int calls;
    private int lastSent = -1;
    private boolean agreed = true;

    private ModelTest(int seed) {
        random = new Random(seed);
        name = "run " + seed;
        manyNodes = seed % 8 == 0;
        manyLocks = seed % 2 == 1;
        clients = 1 + random.nextInt(4);
    }

    public static void main(String[] args) {
        for (int seed = 0; seed < RUNS; seed++) {
            new ModelTest(seed).run();
        }
        check.end();
    }

    private void run() {
        for (int client = 0; client < clients && !rarely(20); client++) {
            begin(client);
        }
        for (int i = 0; i < CALLS; i++) {
            act();
        }
    }

    /** A client's life with a handle on the root, and mostly on a file and a directory. */
    private void begin(int client) {
        start(client);
        step(client, 0, 0, 0, 0, 0, 0);
        step(client, 0, 1, 0, 1, 1, 0);
        step(client, 0, 1, 0, 2, 2, 0);
        whole(client, 0);
        if (model.handle(client, 1) == SlotServer.NONE) {
            step(client, 1, 2, 0, 0, 1, 0);
            step(client, 1, 2, 0, 1, 2, 0);
            step(client, 1, 1, 0, 1, 1, 0);
            step(client, 1, 1, 0, 2, 2, 0);
            whole(client, 1);
        }
    }

    private void act() {
        int client = rarely(60) ? random.nextInt(7) - 1 : random.nextInt(clients);
        int slot = rarely(60) ? random.nextInt(5) - 1 : random.nextInt(3);
        int kind = random.nextInt(100);
        if (kind < 40) {
            aCall(client, slot);
        } else if (kind < 41) {
            if (rarely(2)) {
                start(client);
            } else if (client >= 0 && client < 4) {
                begin(client);
            }
        } else if (kind < 46) {
            aStep(client, slot);
        } else if (kind < 49) {
            send(client, slot);
        } else if (kind < 56) {
            carry(rarely(3) ? random.nextInt(lastSent + 3) - 1 : lastSent - random.nextInt(4), rarely(6));
        } else if (kind < 60) {
            int ms = TIMES[random.nextInt(manyLocks ? 8 : TIMES.length)];
            agree("time " + ms, () -> x.time(ms), () -> model.time(ms));
        } else if (kind < 62) {
            int sectors = random.nextInt(9) - 2;
            agree("stop " + sectors, () -> stop(sectors), () -> model.stop(sectors));
        } else if (kind < (model.runs() == 1 ? 63 : 72)) {
            agree("boot", this::boot, model::boot);
        } else {
            ask(client, slot);
        }
    }

    private void aCall(int client, int slot) {
        int steps = 1 + random.nextInt(4);
        for (int i = 0; i < steps; i++) {
            aStep(client, slot);
        }
        whole(client, slot);
    }

    private void whole(int client, int slot) {
        int before = lastSent;
        send(client, slot);
        if (lastSent != before && !rarely(12)) {
            carry(lastSent, rarely(12));
        }
        if (rarely(2)) {
            int i = random.nextInt(4);
            agree("code", () -> x.code(client, slot, i), () -> model.code(client, slot, i));
            agree("value", () -> x.value(client, slot, i), () -> model.value(client, slot, i));
        }
    }

    private void start(int client) {
        agree("start " + client, () -> x.start(client), () -> model.start(client));
    }

    private void step(int client, int slot, int... s) {
        String what = "step " + client + " " + slot + " " + Arrays.toString(s);
        agree(what, () -> x.step(client, slot, s[0], s[1], s[2], s[3], s[4]), () -> model.step(client, slot, s));
    }

    private void send(int client, int slot) {
        agree("send " + client + " " + slot, () -> lastSent = x.send(client, slot), () -> model.send(client, slot));
    }

    private void carry(int datagram, boolean lost) {
        agree("carry " + datagram + " " + lost, () -> x.carry(datagram, lost), () -> model.carry(datagram, lost));
    }

    private void ask(int client, int slot) {
        int i = random.nextInt(7) - 1;
        int node = rarely(3) ? random.nextInt(34) - 1 : random.nextInt(5);
        int what = random.nextInt(rarely(20) ? 6 : 4);
        int h = rarely(20) ? random.nextInt(10) - 1 : random.nextInt(4);
        int place = rarely(5) ? random.nextInt(67) - 1 : aPlace();
        switch (random.nextInt(11)) {
            case 0:
                agree("code", () -> x.code(client, slot, i), () -> model.code(client, slot, i));
                break;
            case 1:
                agree("value", () -> x.value(client, slot, i), () -> model.value(client, slot, i));
                break;
            case 2:
                agree("runs", () -> x.runs() ? 1 : 0, model::runs);
                break;
            case 3:
                agree("nodes", x::nodes, model::nodes);
                break;
            case 4:
            case 5:
                agree("node " + node, () -> x.node(node, what), () -> model.node(node, what));
                break;
            case 6:
                agree("handle", () -> x.handle(client, h), () -> model.handle(client, h));
                break;
            case 7:
                agree("lease", () -> x.lease(client), () -> model.lease(client));
                break;
            case 8:
                agree("wrong", x::wrong, () -> 0);
                break;
            default:
                agree("lock " + node + " " + place, () -> x.lock(client, node, place), () -> model.lock(client, node, place));
        }
    }

    /** A step that is mostly on a handle of the right kind, since refusals by the handle would be most of all else. */
    private void aStep(int client, int slot) {
        int op = anOp();
        boolean inDirectory = op <= 4 || op == 9;
        int h = rarely(30) ? random.nextInt(11) - 2 : handleOf(client, inDirectory ? DIRECTORY : FILE);
        int a = inDirectory ? random.nextInt(4) : aPlace();
        int b = inDirectory ? aName() : op == 6 || op == 7 ? random.nextInt(256) : aPlace();
        int c = inDirectory ? aName() : 1 + random.nextInt(2);
        if (op == 2) {
            a = random.nextInt(2);
        } else if (op == 4) {
            a = handleOf(client, DIRECTORY);
        } else if (op >= 10 && a > b) {
            a = b;
        }
        if ((op == 7 || op == 13) && !rarely(4)) {
            int locked = lockedPlace(client, h, op == 7 ? 2 : 4 + c);
            b = op == 13 && locked >= 0 ? Math.max(locked, Math.min(b, locked + 3)) : b;
            a = locked >= 0 ? locked : a;
        }
        if (rarely(12)) {
            a = random.nextInt(70) - 3;
        }
        if (rarely(15)) {
            b = random.nextInt(300) - 20;
        }
        if (rarely(15)) {
            c = random.nextInt(9) - 3;
        }
        step(client, slot, op, h, a, b, c);
    }

    private int anOp() {
        if (rarely(80)) {
            return random.nextInt(20) - 3;
        }
        if (manyLocks && !rarely(3)) {
            return rarely(3) ? 5 + random.nextInt(4) : rarely(2) ? 10 : 13;
        }
        return rarely(5) ? random.nextInt(3) : manyNodes && rarely(2) ? 2 : random.nextInt(14);
    }

    private int handleOf(int client, int kind) {
        int from = random.nextInt(8);
        for (int i = 0; i < 8 && client >= 0 && client < 4 && !rarely(30); i++) {
            int h = (from + i) % 8;
            int node = model.handle(client, h);
            if (node != SlotServer.NONE && model.node(node, 0) == kind) {
                return h;
            }
        }
        return from;
    }

    /** The first byte on which the client has a lock of that sort, since few others are HELD or can be claimed. */
    private int lockedPlace(int client, int h, int sort) {
        int node = client < 0 || client > 3 || h < 0 || h > 7 ? SlotServer.NONE : model.handle(client, h);
        for (int place = 0; place < 64 && node != SlotServer.NONE; place++) {
            if (model.lock(client, node, place) == sort) {
                return place;
            }
        }
        return SlotServer.NONE;
    }

    private int aName() {
        return manyNodes ? random.nextInt(60) - 20 : NAMES[random.nextInt(rarely(5) ? 8 : 3)];
    }

    private int aPlace() {
        return rarely(6) ? 60 + random.nextInt(5) : random.nextInt(8);
    }

    private boolean rarely(int onceIn) {
        return random.nextInt(onceIn) == 0;
    }

    private int stop(int sectors) {
        x.stop(sectors);
        return 0;
    }

    private int boot() {
        x.boot();
        return 0;
    }

    private interface Asked {
        int answer();
    }

    /** A run ends at its first difference, and with the calls for which an object is made. */
    private void agree(String what, Asked program, Asked model) {
        if (!agreed || calls == CALLS) {
            return;
        }
        calls++;
        long got = outcome(program);
        long want = outcome(model);
        check.due(name + ", call " + calls + " " + what, got, want);
        agreed = got == want;
    }

    /** Exceptions stand far outside of the ints. */
    private static long outcome(Asked asked) {
        try {
            return asked.answer();
        } catch (IllegalArgumentException e) {
            return (1L << 40) + Model.ARGUMENT;
        } catch (IllegalStateException e) {
            return (1L << 40) + Model.STATE;
        } catch (Model.Refused e) {
            return (1L << 40) + e.kind;
        } catch (RuntimeException e) {
            return 1L << 41;
        }
    }
}
