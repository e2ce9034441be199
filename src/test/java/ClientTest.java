/** Promises 2 (start), 3 (step), 4 (send), 6 (code), 7 (value): what a client does and knows by itself. */
public final class ClientTest {
    private static final int NONE = SlotServer.NONE;
    private static final Check check = new Check();

    public static void main(String[] args) {
        lives();
        buildingACall();
        wrongSteps();
        sending();
        threeHundredDatagrams();
        answers();
        answerOfAnEarlierCall();
        startForgets();
        check.end();
    }

    private static void lives() {
        SlotServer x = new SlotServer();
        check.due("first life", x.start(0), 1);
        check.due("second life", x.start(0), 2);
        check.due("another client's first", x.start(3), 1);
        check.due("third life", x.start(0), 3);
        check.illegalArgument("start(-1)", () -> x.start(-1));
        check.illegalArgument("start(4)", () -> x.start(4));
        check.illegalArgument("start(MIN)", () -> x.start(Integer.MIN_VALUE));
        check.due("life after wrong starts", x.start(0), 4);
    }

    private static void buildingACall() {
        SlotServer x = new SlotServer();
        check.illegalState("step before start", () -> x.step(0, 0, 0, 0, 0, 0, 0));
        check.illegalState("send before start", () -> x.send(0, 0));
        x.start(0);
        for (int i = 1; i <= 4; i++) {
            check.due("steps", x.step(0, 0, 13, -5, Integer.MIN_VALUE, Integer.MAX_VALUE, 99), i);
        }
        check.illegalState("a fifth step", () -> x.step(0, 0, 0, 0, 0, 0, 0));
        check.due("another slot has its own call", x.step(0, 2, 0, 0, 0, 0, 0), 1);
        check.due("being built: code", x.code(0, 0, 0), NONE);
        check.due("being built: value", x.value(0, 0, 0), NONE);
        x.send(0, 0);
        check.illegalState("step while the call is open", () -> x.step(0, 0, 0, 0, 0, 0, 0));
        check.due("the other slot goes on", x.step(0, 2, 0, 0, 0, 0, 0), 2);
    }

    private static void wrongSteps() {
        SlotServer x = new SlotServer();
        check.illegalArgument("client 4 that never started", () -> x.step(4, 0, 0, 0, 0, 0, 0));
        check.illegalArgument("op 14 before start", () -> x.step(0, 0, 14, 0, 0, 0, 0));
        x.start(0);
        check.illegalArgument("client -1", () -> x.step(-1, 0, 0, 0, 0, 0, 0));
        check.illegalArgument("slot -1", () -> x.step(0, -1, 0, 0, 0, 0, 0));
        check.illegalArgument("slot 3", () -> x.step(0, 3, 0, 0, 0, 0, 0));
        check.illegalArgument("op -1", () -> x.step(0, 0, -1, 0, 0, 0, 0));
        check.illegalArgument("op 14", () -> x.step(0, 0, 14, 0, 0, 0, 0));
        check.due("none of these was a step", x.step(0, 0, 0, 0, 0, 0, 0), 1);
        x.send(0, 0);
        check.illegalArgument("op 14 while open", () -> x.step(0, 0, 14, 0, 0, 0, 0));
    }

    private static void sending() {
        SlotServer x = new SlotServer();
        x.start(1);
        check.illegalArgument("send from client -1", () -> x.send(-1, 0));
        check.illegalArgument("send from client 4", () -> x.send(4, 0));
        check.illegalArgument("send from slot -1", () -> x.send(1, -1));
        check.illegalArgument("send from slot 3", () -> x.send(1, 3));
        check.illegalState("send nothing", () -> x.send(1, 0));
        x.step(1, 0, 0, 0, 0, 0, 0);
        x.step(1, 2, 0, 1, 0, 0, 0);
        check.illegalState("send of another slot", () -> x.send(1, 1));
        check.due("datagram 0", x.send(1, 2), 0);
        check.due("datagram 1", x.send(1, 0), 1);
        check.illegalState("send what is open", () -> x.send(1, 0));
        x.carry(1, false);
        check.illegalState("send what was answered", () -> x.send(1, 0));
        check.due("open: waiting", x.code(1, 2, 0), SlotServer.WAITING);
        check.due("the other came", x.code(1, 0, 0), SlotServer.OK);
    }

    private static void threeHundredDatagrams() {
        SlotServer x = new SlotServer();
        x.start(0);
        x.step(0, 1, 0, 3, 0, 0, 0);
        int made = 0;
        for (int i = 0; i < 100; i++) {
            int life = x.start(2);
            for (int slot = 0; slot < 3; slot++) {
                if (made < 299) {
                    x.step(2, slot, 0, life % 8, 0, 0, 0);
                    check.due("datagram", x.send(2, slot), made);
                    made++;
                }
            }
        }
        check.due("the last of 300", x.send(0, 1), 299);
        x.step(2, 2, 0, 0, 0, 0, 0);
        check.illegalState("one more than 300", () -> x.send(2, 2));
        check.due("it is still being built", x.step(2, 2, 0, 0, 0, 0, 0), 2);
        check.illegalState("still more than 300", () -> x.send(2, 2));
        check.illegalArgument("no datagram 300", () -> x.carry(300, false));
        check.due("datagram 299 comes", x.carry(299, false), 1);
        check.due("its steps are its own", x.handle(0, 3), 0);
        check.due("datagram 298 comes", x.carry(298, false), 1);
        check.due("its step binds by its life", x.handle(2, 100 % 8), 0);
    }

    private static void answers() {
        Bench bench = new Bench();
        SlotServer x = bench.x;
        int d = bench.sent(0, 1, Bench.s(0, 2), Bench.s(2, 2, 0, 9), Bench.s(1, 2, 3, 8), Bench.s(0, 4));
        check.due("waiting for a step", x.code(0, 1, 1), SlotServer.WAITING);
        check.due("no value yet", x.value(0, 1, 1), NONE);
        x.carry(d, true);
        check.due("a lost answer: waiting", x.code(0, 1, 1), SlotServer.WAITING);
        check.due("a lost answer: no value", x.value(0, 1, 1), NONE);
        x.carry(d, false);
        int[] codes = {SlotServer.OK, SlotServer.OK, SlotServer.ABSENT, NONE};
        int[] values = {0, 1, 0, NONE};
        for (int i = 0; i < 4; i++) {
            check.due("code " + i, x.code(0, 1, i), codes[i]);
            check.due("value " + i, x.value(0, 1, i), values[i]);
        }
        for (int i : new int[] {-1, 4, Integer.MIN_VALUE, Integer.MAX_VALUE}) {
            check.due("no such step: code", x.code(0, 1, i), NONE);
            check.due("no such step: value", x.value(0, 1, i), NONE);
        }
        check.due("a slot without call", x.code(0, 0, 0), NONE);
        check.due("the last step was not done", x.handle(0, 4), NONE);
        x.step(0, 1, 0, 2, 0, 0, 0);
        check.due("the next is being built: code", x.code(0, 1, 0), NONE);
        check.due("the next is being built: value", x.value(0, 1, 0), NONE);
        check.illegalArgument("code of client 4", () -> x.code(4, 0, 0));
        check.illegalArgument("code of client -1", () -> x.code(-1, 0, 0));
        check.illegalArgument("code of slot 3", () -> x.code(0, 3, 0));
        check.illegalArgument("code of slot -1", () -> x.code(0, -1, 0));
        check.illegalArgument("value of client 4", () -> x.value(4, 0, 0));
        check.illegalArgument("value of client -1", () -> x.value(-1, 0, 0));
        check.illegalArgument("value of slot 3", () -> x.value(0, 3, 0));
        check.illegalArgument("value of slot -1", () -> x.value(0, -1, 0));
    }

    /** A shorter answer must not show steps of the longer one before it. */
    private static void answerOfAnEarlierCall() {
        Bench bench = new Bench();
        SlotServer x = bench.x;
        bench.done(0, 0, Bench.s(0), Bench.s(0, 1), Bench.s(0, 2), Bench.s(0, 3));
        check.due("four were done", x.code(0, 0, 3), SlotServer.OK);
        int second = bench.sent(0, 0, Bench.s(5, 0));
        check.due("the first answer comes again", x.carry(0, false), 2);
        check.due("but the second call is open", x.code(0, 0, 0), SlotServer.WAITING);
        x.carry(second, false);
        check.due("the second answer", x.code(0, 0, 0), SlotServer.KIND);
        check.due("it has one step", x.code(0, 0, 1), NONE);
        check.due("and one value", x.value(0, 0, 1), NONE);
    }

    private static void startForgets() {
        Bench bench = new Bench();
        SlotServer x = bench.x;
        bench.done(0, 0, Bench.s(0));
        int open = bench.sent(0, 1, Bench.s(0, 1));
        x.step(0, 2, 0, 0, 0, 0, 0);
        x.start(0);
        for (int slot = 0; slot < 3; slot++) {
            check.due("no call after start", x.code(0, slot, 0), NONE);
            int s = slot;
            check.illegalState("nothing to send after start", () -> x.send(0, s));
        }
        check.due("the datagram is not forgotten", x.carry(open, false), 1);
        check.due("it was done", x.handle(0, 1), 0);
        check.due("but its answer is not taken", x.code(0, 1, 0), NONE);
        bench.sent(0, 1, Bench.s(0, 5));
        check.due("the old answer comes again", x.carry(open, false), 2);
        check.due("and is not one for the call of this life", x.code(0, 1, 0), SlotServer.WAITING);
    }
}
