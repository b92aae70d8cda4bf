import java.io.IOException;
import java.lang.reflect.Constructor;
import java.lang.reflect.Field;
import java.lang.reflect.Method;
import java.lang.reflect.Modifier;
import java.nio.file.Files;
import java.nio.file.Path;
import java.util.Arrays;
import java.util.List;
import java.util.NoSuchElementException;
import java.util.Random;
import java.util.Set;
import java.util.TreeSet;

/** The document's face, LANGUAGE.md as far as it can be seen from here, and that no call throws by itself. */
public final class FaceTest {
    private static final String[] FACE = {
        "int feed(int, int, int, int, int)", "boolean end(int)", "int fault(int)", "int text(int)", "int rule(int)",
        "int thread(int, int)", "boolean law(int)", "int attempt(int, int)", "int pull(int)", "int sell(int)",
        "int dye(int, int)", "int give(int)", "int days(int)", "boolean wakes(int)", "int years(int, long)",
        "int status(int)", "int undo()", "int log(int, int)", "int fits(int, int)", "int could(int)", "int knots(int)",
        "int tale(int)", "int plan(int, int)", "int blankets(int)", "int seen(int, int, boolean)", "int plies(int, int)",
        "int ask(int)", "int game(int, int, int, int, int)", "int rests(int, int, int)", "int odds(int, int)",
        "int story(int, int)", "int shares(int, int)", "int most(int)", "int image()", "int back()", "int count(int)"};

    public static void main(String[] args) throws IOException {
        methods();
        fieldsAndConstructors();
        nestedClasses();
        source();
        wildCalls();
        room();
        Desk.finish("FaceTest");
    }

    private static String signature(Method method) {
        StringBuilder text = new StringBuilder();
        text.append(method.getReturnType().getName()).append(' ').append(method.getName()).append('(');
        Class<?>[] types = method.getParameterTypes();
        for (int i = 0; i < types.length; i++) {
            text.append(i > 0 ? ", " : "").append(types[i].getName());
        }
        return text.append(')').toString();
    }

    private static void methods() {
        Set<String> found = new TreeSet<>();
        for (Method method : LooseEnds.class.getDeclaredMethods()) {
            if (Modifier.isPublic(method.getModifiers())) {
                found.add(signature(method));
                Desk.due("no static method in the face", Modifier.isStatic(method.getModifiers()), false);
            } else {
                Desk.due(method + " is private", Modifier.isPrivate(method.getModifiers()), true);
            }
        }
        Desk.due("the face is the document's: " + found, found.equals(new TreeSet<>(Arrays.asList(FACE))), true);
    }

    private static void fieldsAndConstructors() {
        for (Field field : LooseEnds.class.getDeclaredFields()) {
            boolean told = field.getName().equals("NONE") || field.getName().equals("HIDDEN");
            Desk.due(field + " is as visible as told", field.getModifiers() & (Modifier.PUBLIC | Modifier.PRIVATE),
                told ? Modifier.PUBLIC : Modifier.PRIVATE);
        }
        Constructor<?>[] all = LooseEnds.class.getDeclaredConstructors();
        Desk.due("one constructor", all.length, 1);
        Desk.due("it is public", Modifier.isPublic(all[0].getModifiers()), true);
        Desk.due("the class is public and final",
            Modifier.isPublic(LooseEnds.class.getModifiers()) && Modifier.isFinal(LooseEnds.class.getModifiers()), true);
        Desk.due("NONE", LooseEnds.NONE, -1);
        Desk.due("HIDDEN", LooseEnds.HIDDEN, -1000000);
    }

    private static void nestedClasses() {
        Set<String> names = new TreeSet<>();
        for (String signature : FACE) {
            names.add(signature.substring(signature.indexOf(' ') + 1, signature.indexOf('(')));
        }
        Class<?>[] nested = LooseEnds.class.getDeclaredClasses();
        Desk.due("some twelve classes at most", nested.length + 1 <= 13, true);
        for (Class<?> one : nested) {
            int modifiers = one.getModifiers();
            Desk.due(one + " is static", Modifier.isStatic(modifiers), true);
            Desk.due(one + " is not public", Modifier.isPublic(modifiers) || Modifier.isProtected(modifiers), false);
            for (Method method : one.getDeclaredMethods()) {
                Desk.due(method + " bears no name of the face", names.contains(method.getName()), false);
                Desk.due(method + " has seven parameters at most", method.getParameterCount() <= 7, true);
            }
            int fields = 0;
            for (Field field : one.getDeclaredFields()) {
                fields += Modifier.isStatic(field.getModifiers()) ? 0 : 1;
                Desk.due(field + ": what is static is final",
                    !Modifier.isStatic(field.getModifiers()) || Modifier.isFinal(field.getModifiers()), true);
            }
            Desk.due(one + " has some twenty fields at most", fields <= 20, true);
        }
    }

    private static void source() throws IOException {
        List<String> lines = Files.readAllLines(Path.of("src/main/java/LooseEnds.java"));
        String[] outside = {"package ", "try {", "catch", "finally", "synchronized", "assert", "->", "::", "System.out",
            "Exact(", "volatile", "native", "Random", "MAX_VALUE", "MIN_VALUE", "double", "float", "protected"};
        Set<String> imports = Set.of("import java.util.Arrays;", "import java.util.NoSuchElementException;");
        for (String line : lines) {
            for (String word : outside) {
                Desk.due("<" + word + "> in: " + line, line.contains(word), false);
            }
            Desk.due("import: " + line, line.startsWith("import") && !imports.contains(line), false);
        }
        int from = 0;
        for (int i = 0; i < lines.size(); i++) {
            String line = lines.get(i);
            if (line.endsWith("{") && line.contains("(") && line.matches("( {4}| {8})\\S.*")) {
                from = i;
            }
            if (line.matches("( {4}| {8})\\}")) {
                Desk.due("a method of sixty lines at most ends at " + (i + 1), from == 0 || i - from < 60
                    || line.startsWith("    }"), true);
            }
        }
    }

    private static final int[] WILD = {0, 1, 2, 3, 4, 5, 6, 7, 8, 9, 10, 20, 39, 40, 60, 61, 99, 100, 139, 140, 141, 999, 1000,
        -1, -2, -7, 31, 32, 33, 63, 64, 127, 128, 255, 256, 65536, Integer.MAX_VALUE, Integer.MIN_VALUE,
        Integer.MAX_VALUE - 1, Integer.MIN_VALUE + 1, 1 << 30, -(1 << 30)};

    private static int wild(Random random) {
        int way = random.nextInt(3);
        return way == 0 ? random.nextInt(7) : way == 1 ? WILD[random.nextInt(WILD.length)] : random.nextInt(70) - 5;
    }

    private static void wildCalls() {
        for (int run = 0; run < 3000; run++) {
            Random random = new Random(run);
            LooseEnds x = new LooseEnds();
            for (int call = 0; call < 512; call++) {
                if (call == 20 && run % 3 > 0) {
                    x.end(0);
                    Desk.feed(x, Texts.mill(random));
                    x.text(0);
                }
                if (call % 100 == 30) {
                    x.end(0);
                    Desk.feed(x, Texts.law(random));
                    x.text(1);
                }
                wildCall(x, random);
            }
        }
    }

    private static void wildCall(LooseEnds x, Random random) {
        int a = wild(random);
        int b = wild(random);
        int kind = random.nextInt(FACE.length);
        try {
            if (kind == 5) {
                threadCall(x, a, b);
            } else {
                otherCall(x, kind, a, b, random);
            }
        } catch (RuntimeException e) {
            Desk.due(FACE[kind] + " of " + a + ", " + b + " threw " + e, 1, 0);
        }
    }

    private static void threadCall(LooseEnds x, int a, int b) {
        boolean is = a >= 0 && a < x.count(0) && b >= 0 && b < 6;
        try {
            x.thread(a, b);
            Desk.due("thread(" + a + ", " + b + ") throws", false, !is);
        } catch (NoSuchElementException e) {
            Desk.due("thread(" + a + ", " + b + ") throws", true, !is);
        }
    }

    private static int otherCall(LooseEnds x, int kind, int a, int b, Random random) {
        int c = wild(random);
        switch (kind) {
            case 0: return x.feed(a, b, c, random.nextInt(), wild(random));
            case 1: return x.end(a) ? 1 : 0;
            case 2: return x.fault(a);
            case 3: return x.text(a);
            case 4: return x.rule(a);
            case 6: return x.law(a) ? 1 : 0;
            case 7: return x.attempt(a, b);
            case 8: return x.pull(a);
            case 9: return x.sell(a);
            case 10: return x.dye(a, b);
            case 11: return x.give(a);
            case 12: return x.days(a);
            case 13: return x.wakes(a) ? 1 : 0;
            case 14: return x.years(a, random.nextLong());
            case 15: return x.status(a);
            case 16: return x.undo();
            case 17: return x.log(a, b);
            case 18: return x.fits(a, b);
            case 19: return x.could(a);
            case 20: return x.knots(a);
            case 21: return x.tale(a);
            case 22: return x.plan(a, b);
            case 23: return x.blankets(a);
            case 24: return x.seen(a, b, random.nextBoolean());
            case 25: return x.plies(a, b);
            case 26: return x.ask(a);
            case 27: return x.game(a, b, c, wild(random), wild(random));
            case 28: return x.rests(a, b, c);
            case 29: return x.odds(a, b);
            case 30: return x.story(a, b);
            case 31: return x.shares(a, b);
            case 32: return x.most(a);
            case 33: return x.image();
            case 34: return x.back();
            default: return x.count(a);
        }
    }

    /** An object and its 512 calls stay far below what one room holds (7.3 million elements, 600,000 objects). */
    private static void room() {
        com.sun.management.ThreadMXBean threads =
            (com.sun.management.ThreadMXBean) java.lang.management.ManagementFactory.getThreadMXBean();
        long id = Thread.currentThread().getId();
        long most = 0;
        for (int run = 0; run < 20; run++) {
            long before = threads.getThreadAllocatedBytes(id);
            LooseEnds x = new LooseEnds();
            // t;t;t;t;t;t;t
            x.feed(0x743B743B, 0x743B743B, 0x743B743B, 0x74000000, 0);
            x.text(0);
            for (int i = 0; i < 50; i++) {
                x.knots(0);
                x.tale(0);
                x.plan(2, 0);
                x.blankets(9);
                x.rests(0, 1, -1);
                x.years(10, i);
                x.undo();
                x.image();
                x.back();
                x.fault(0);
            }
            most = threads.getThreadAllocatedBytes(id) - before;
        }
        Desk.due("bytes of an object and its calls: " + most, most < 40000, true);
    }
}
