/** An object with short ways to build, send and carry a call. */
final class Bench {
    static final int FILE_NAME = 5;
    static final int FILE = 1;
    final SlotServer x = new SlotServer();

    Bench() {
        for (int client = 0; client < 4; client++) {
            x.start(client);
        }
    }

    /** Builds and sends a call whose steps stand in rows of op, h, a, b, c, with zeros left out at the end. */
    int sent(int client, int slot, int[]... steps) {
        for (int[] s : steps) {
            int[] n = java.util.Arrays.copyOf(s, 5);
            x.step(client, slot, n[0], n[1], n[2], n[3], n[4]);
        }
        return x.send(client, slot);
    }

    /** The same, carried without loss: what carry answers. */
    int done(int client, int slot, int[]... steps) {
        return x.carry(sent(client, slot, steps), false);
    }

    /** A call of one step, done: its code. */
    int one(int client, int slot, int... step) {
        done(client, slot, step);
        return x.code(client, slot, 0);
    }

    /** A call of one step, done: its value, or -100 - code if the code is not OK. */
    int valueOf(int client, int slot, int... step) {
        int code = one(client, slot, step);
        return code == SlotServer.OK ? x.value(client, slot, 0) : -100 - code;
    }

    /** Handle 0 of the client is the root then, and handle 1 the file with the name 5, node 1 in a new object. */
    void openFile(int client) {
        done(client, 0, s(0, 0), s(2, 0, 0, FILE_NAME));
        done(client, 0, s(0, 0), s(1, 0, 1, FILE_NAME));
    }

    static int[] s(int... step) {
        return step;
    }
}
