import java.io.ByteArrayOutputStream;
import java.io.IOException;
import java.io.PrintStream;
import java.lang.reflect.InvocationTargetException;
import java.net.URL;
import java.net.URLClassLoader;
import java.nio.file.Files;
import java.nio.file.Path;
import java.util.ArrayList;
import java.util.List;
import javax.tools.JavaCompiler;
import javax.tools.ToolProvider;

/** README.md: its program can be compiled as it stands there and prints what stands below it. */
public final class ReadmeTest {
    public static void main(String[] args) throws Exception {
        List<String> lines = Files.readAllLines(Path.of("README.md"));
        List<String> program = block(lines, "```java");
        List<String> want = block(lines, "```text");
        Path place = Files.createTempDirectory("readme");
        try {
            runAndCompare(place, program, want);
        } finally {
            clear(place);
        }
        Desk.finish("ReadmeTest");
    }

    private static void runAndCompare(Path place, List<String> program, List<String> want) throws Exception {
        Files.write(place.resolve("Example.java"), program);
        boolean compiled = compile(place);
        Desk.due("README: its program is compiled", compiled, true);
        if (!compiled) {
            return;
        }
        List<String> printed = run(place);
        Desk.due("README: how many lines are printed", printed.size(), want.size());
        for (int i = 0; i < want.size() && i < printed.size(); i++) {
            Desk.due("README: <" + printed.get(i) + "> where <" + want.get(i) + "> stands",
                printed.get(i).equals(want.get(i)), true);
        }
        Desk.due("README: something is printed", want.isEmpty(), false);
    }

    /** The lines of the first block that begins so. */
    private static List<String> block(List<String> lines, String begin) {
        List<String> block = new ArrayList<>();
        int at = lines.indexOf(begin);
        for (int i = at + 1; at >= 0 && i < lines.size() && !lines.get(i).equals("```"); i++) {
            block.add(lines.get(i));
        }
        return block;
    }

    private static boolean compile(Path place) {
        JavaCompiler compiler = ToolProvider.getSystemJavaCompiler();
        String classes = System.getProperty("java.class.path");
        return compiler != null && compiler.run(null, null, null, "-cp", classes, "-d", place.toString(),
            place.resolve("Example.java").toString()) == 0;
    }

    private static List<String> run(Path place) throws Exception {
        PrintStream screen = System.out;
        ByteArrayOutputStream printed = new ByteArrayOutputStream();
        System.setOut(new PrintStream(printed, true));
        try (URLClassLoader loader = new URLClassLoader(new URL[] {place.toUri().toURL()})) {
            loader.loadClass("Example").getMethod("main", String[].class).invoke(null, (Object) new String[0]);
        } catch (InvocationTargetException e) {
            System.out.println("threw " + e.getCause());
        } finally {
            System.setOut(screen);
        }
        return printed.toString().lines().toList();
    }

    private static void clear(Path place) throws IOException {
        try (java.util.stream.Stream<Path> files = Files.list(place)) {
            for (Path file : files.toList()) {
                Files.delete(file);
            }
        }
        Files.delete(place);
    }
}
