import java.lang.reflect.Field;
import java.lang.reflect.Method;
import java.lang.reflect.Modifier;
import java.util.TreeSet;

/** The public face as the document writes it, and promise 1: what a new object is. */
public final class FaceTest {
    private static final String[] METHODS = {
        "int start(int) IllegalArgumentException",
        "int step(int,int,int,int,int,int,int) IllegalArgumentException IllegalStateException",
        "int send(int,int) IllegalArgumentException IllegalStateException",
        "int carry(int,boolean) IllegalArgumentException",
        "int code(int,int,int) IllegalArgumentException",
        "int value(int,int,int) IllegalArgumentException",
        "void stop(int) IllegalArgumentException",
        "void boot() IllegalStateException",
        "int time(int) IllegalArgumentException",
        "boolean runs()",
        "int nodes()",
        "int node(int,int) IllegalArgumentException",
        "int handle(int,int) IllegalArgumentException",
        "int lock(int,int,int) IllegalArgumentException",
        "int lease(int) IllegalArgumentException",
        "int wrong()",
    };
    private static final String[] CONSTANTS = {
        "OK", "STALE", "ABSENT", "EXISTS", "KIND", "FULL", "BAD", "NOT_EMPTY", "CIRCLE", "LOCKED", "LOST", "GRACE",
    };
    private static final Check check = new Check();

    public static void main(String[] args) throws Exception {
        methods();
        constants();
        newObject();
        check.end();
    }

    private static void methods() {
        TreeSet<String> due = new TreeSet<>();
        for (String m : METHODS) {
            due.add(m);
        }
        for (Method m : SlotServer.class.getDeclaredMethods()) {
            if (Modifier.isPrivate(m.getModifiers()) || m.isSynthetic()) {
                continue;
            }
            check.due("public " + m, Modifier.isPublic(m.getModifiers()), true);
            check.due("due " + m, due.remove(shortForm(m)), true);
        }
        check.due("missing " + due, due.size(), 0);
        check.due("final", Modifier.isFinal(SlotServer.class.getModifiers()), true);
        check.due("constructors", SlotServer.class.getDeclaredConstructors().length, 1);
    }

    private static String shortForm(Method m) {
        StringBuilder text = new StringBuilder();
        text.append(m.getReturnType()).append(' ').append(m.getName()).append('(');
        for (int i = 0; i < m.getParameterCount(); i++) {
            text.append(i == 0 ? "" : ",").append(m.getParameterTypes()[i]);
        }
        text.append(')');
        for (Class<?> thrown : m.getExceptionTypes()) {
            text.append(' ').append(thrown.getSimpleName());
        }
        return text.toString();
    }

    private static void constants() throws Exception {
        for (int i = 0; i < CONSTANTS.length; i++) {
            check.due(CONSTANTS[i], SlotServer.class.getField(CONSTANTS[i]).getInt(null), i);
        }
        check.due("NONE", SlotServer.NONE, -1);
        check.due("WAITING", SlotServer.WAITING, -2);
        int seen = 0;
        for (Field f : SlotServer.class.getDeclaredFields()) {
            seen += Modifier.isPrivate(f.getModifiers()) ? 0 : 1;
            check.due("no state of the class: " + f, !Modifier.isStatic(f.getModifiers()) || Modifier.isFinal(f.getModifiers()), true);
        }
        check.due("constants", seen, CONSTANTS.length + 2);
    }

    private static void newObject() {
        SlotServer x = new SlotServer();
        check.due("runs", x.runs(), true);
        check.due("nodes", x.nodes(), 1);
        check.due("root is a directory", x.node(0, 0), 1);
        check.due("root is in none", x.node(0, 1), SlotServer.NONE);
        check.due("root has no name", x.node(0, 2), 0);
        check.due("root has no bytes", x.node(0, 3), 0);
        check.due("no other node", x.node(1, 0), SlotServer.NONE);
        check.due("time", x.time(0), 0);
        check.due("wrong", x.wrong(), 0);
        for (int client = 0; client < 4; client++) {
            check.due("no lease", x.lease(client), 0);
            check.due("no lock", x.lock(client, 0, 0), 0);
            for (int h = 0; h < 8; h++) {
                check.due("no handle", x.handle(client, h), SlotServer.NONE);
            }
            for (int slot = 0; slot < 3; slot++) {
                check.due("no call", x.code(client, slot, 0), SlotServer.NONE);
                check.due("no value", x.value(client, slot, 0), SlotServer.NONE);
            }
        }
        Bench bench = new Bench();
        bench.openFile(0);
        check.due("no grace", bench.one(0, 0, 10, 1, 0, 0, 1), SlotServer.OK);
    }
}
