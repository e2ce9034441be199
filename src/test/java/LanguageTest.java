import java.lang.reflect.Array;
import java.lang.reflect.Field;
import java.lang.reflect.Method;
import java.lang.reflect.Modifier;
import java.nio.file.Files;
import java.nio.file.Path;
import java.util.ArrayList;
import java.util.Collections;
import java.util.IdentityHashMap;
import java.util.List;
import java.util.Set;
import java.util.TreeSet;
import java.util.regex.Matcher;
import java.util.regex.Pattern;

/** The rules of LANGUAGE.md that can be read off the source or the compiled class, and the room that an object takes. */
public final class LanguageTest {
    private static final Path SOURCE = Path.of("src/main/java/SlotServer.java");
    private static final List<String> LIBRARY = List.of("Arrays.fill", "Math.max", "Math.min", "System.arraycopy");
    private static final List<String> THROWN = List.of("new IllegalArgumentException()", "new IllegalStateException()");
    private static final String[] FORBIDDEN = {
        "package", "finally", "synchronized", "assert", "native", "volatile", "transient", "protected", "hashCode",
        "toString", "getMessage", "Object", "Map", "Set", "Random", "Thread", "System.out",
    };
    private static final int CALLS = 512;
    private static final long ROOM_OBJECTS = 600_000;
    private static final long ROOM_ELEMENTS = 7_300_000;
    private static final Check check = new Check();

    public static void main(String[] args) throws Exception {
        String code = withoutComments(Files.readString(SOURCE));
        check.sentence("rule 1: no private method bears the name of a public one", LanguageTest::names);
        check.sentence("rule 1: classes inside are static, and not public", LanguageTest::classesInside);
        check.sentence("rules 1, 2, 3, 6, 13: words that are ruled out", () -> words(code));
        check.sentence("rule 3: arrays of one dimension", () -> check.due("[][]", code.contains("[]["), false));
        check.sentence("rule 4: the library", () -> library(code));
        check.sentence("rule 5: static fields are final numbers", LanguageTest::staticFields);
        check.sentence("rule 6: what is thrown", () -> thrown(code));
        check.sentence("rule 11: few parameters, fields and classes", LanguageTest::sizes);
        check.sentence("rule 11: short methods", () -> lengths(code));
        check.sentence("rule 12: a call makes nothing that stays", LanguageTest::nothingStays);
        check.sentence("the room: 512 new objects in one run", LanguageTest::room);
        check.end();
    }

    private static String withoutComments(String source) {
        return source.replaceAll("(?s)/\\*.*?\\*/", "").replaceAll("//[^\n]*", "");
    }

    private static List<Class<?>> classes() {
        List<Class<?>> all = new ArrayList<>(List.of(SlotServer.class.getDeclaredClasses()));
        all.add(SlotServer.class);
        return all;
    }

    private static void names() {
        Set<String> face = new TreeSet<>();
        for (Method m : SlotServer.class.getMethods()) {
            face.add(m.getName());
        }
        for (Class<?> each : classes()) {
            for (Method m : each.getDeclaredMethods()) {
                boolean hidden = Modifier.isPrivate(m.getModifiers());
                check.due(each.getName() + " " + m.getName(), hidden && face.contains(m.getName()), false);
            }
        }
    }

    private static void classesInside() {
        for (Class<?> each : SlotServer.class.getDeclaredClasses()) {
            int is = each.getModifiers();
            check.due(each + " static", Modifier.isStatic(is), true);
            check.due(each + " hidden", Modifier.isPublic(is) || Modifier.isProtected(is), false);
        }
    }

    private static void words(String code) {
        for (String word : FORBIDDEN) {
            check.due(word, Pattern.compile("\\b" + word + "\\b").matcher(code).find(), false);
        }
        check.due("lambda", code.contains("->"), false);
        check.due("method reference", code.contains("::"), false);
    }

    private static void library(String code) {
        Matcher imports = Pattern.compile("import ([^;]*);").matcher(code);
        while (imports.find()) {
            check.same("import", imports.group(1), "java.util.Arrays");
        }
        Matcher calls = Pattern.compile("\\b(Arrays|Math|System|Integer|Long|List)\\.\\w+").matcher(code);
        while (calls.find()) {
            check.due(calls.group(), LIBRARY.contains(calls.group()), true);
        }
    }

    private static void staticFields() {
        for (Class<?> each : classes()) {
            for (Field f : each.getDeclaredFields()) {
                if (Modifier.isStatic(f.getModifiers())) {
                    check.due(f + " final int", Modifier.isFinal(f.getModifiers()) && f.getType() == int.class, true);
                }
            }
        }
    }

    private static void thrown(String code) {
        Matcher throwing = Pattern.compile("\\bthrow ([^;]*);").matcher(code);
        while (throwing.find()) {
            check.due(throwing.group(), THROWN.contains(throwing.group(1)), true);
        }
    }

    private static void sizes() {
        check.due("at most twelve classes", classes().size() <= 12, true);
        for (Class<?> each : classes()) {
            int fields = 0;
            for (Field f : each.getDeclaredFields()) {
                fields += Modifier.isStatic(f.getModifiers()) ? 0 : 1;
            }
            check.due(each + " at most twenty fields", fields <= 20, true);
            for (Method m : each.getDeclaredMethods()) {
                check.due(m + " at most seven parameters", m.getParameterCount() <= 7, true);
            }
        }
    }

    /** A method's head ends with a brace, four or eight blanks in; its end is the next brace that stands alone there. */
    private static void lengths(String code) {
        String[] lines = code.split("\n");
        for (int i = 0; i < lines.length; i++) {
            if (!lines[i].matches(" {4}( {4})?[^ }].*\\).*\\{")) {
                continue;
            }
            String end = lines[i].startsWith("        ") ? "        }" : "    }";
            int last = i;
            while (last < lines.length && !lines[last].equals(end)) {
                last++;
            }
            check.due(lines[i].trim() + " at most sixty lines", last - i < 60, true);
        }
    }

    private static void nothingStays() {
        SlotServer x = new SlotServer();
        long[] before = sizeOf(x);
        for (int i = 0; i < CALLS / 8; i++) {
            x.start(0);
            x.step(0, 0, 0, 0, 0, 0, 0);
            x.step(0, 0, 2, 0, 0, i + 1, 0);
            x.step(0, 0, 1, 0, 1, i + 1, 0);
            x.stop(i % 8);
            x.carry(x.send(0, 0), i % 2 == 0);
            if (!x.runs()) {
                x.boot();
            }
            x.time(i * 100);
        }
        check.due("objects", sizeOf(x)[0], before[0]);
        check.due("elements", sizeOf(x)[1], before[1]);
    }

    private static void room() {
        long[] one = sizeOf(new SlotServer());
        check.due("objects of one: " + one[0], one[0] * CALLS < ROOM_OBJECTS, true);
        check.due("elements of one: " + one[1], one[1] * CALLS < ROOM_ELEMENTS, true);
    }

    /** Objects and arrays that an object holds, itself too, and the fields and elements in all of them. */
    private static long[] sizeOf(Object object) {
        Set<Object> seen = Collections.newSetFromMap(new IdentityHashMap<>());
        List<Object> waiting = new ArrayList<>();
        long elements = 0;
        waiting.add(object);
        while (!waiting.isEmpty()) {
            Object next = waiting.remove(waiting.size() - 1);
            if (next == null || !seen.add(next)) {
                continue;
            }
            elements += next.getClass().isArray() ? lookInArray(next, waiting) : lookInFields(next, waiting);
        }
        return new long[] {seen.size(), elements};
    }

    private static int lookInArray(Object array, List<Object> found) {
        int length = Array.getLength(array);
        for (int i = 0; i < length && !array.getClass().getComponentType().isPrimitive(); i++) {
            found.add(Array.get(array, i));
        }
        return length;
    }

    private static int lookInFields(Object object, List<Object> found) {
        int fields = 0;
        for (Field f : object.getClass().getDeclaredFields()) {
            if (Modifier.isStatic(f.getModifiers())) {
                continue;
            }
            fields++;
            if (!f.getType().isPrimitive()) {
                found.add(valueOf(f, object));
            }
        }
        return fields;
    }

    private static Object valueOf(Field f, Object object) {
        try {
            f.setAccessible(true);
            return f.get(object);
        } catch (IllegalAccessException e) {
            throw new IllegalStateException(e);
        }
    }
}
