import java.io.ByteArrayOutputStream;
import java.io.IOException;
import java.io.PrintStream;
import java.lang.reflect.InvocationTargetException;
import java.lang.reflect.Method;
import java.lang.reflect.Modifier;
import java.net.URL;
import java.net.URLClassLoader;
import java.nio.file.Files;
import java.nio.file.Path;
import java.util.ArrayList;
import java.util.List;
import java.util.regex.Matcher;
import java.util.regex.Pattern;
import java.util.stream.Stream;

/** Holds the program of README.md against what the page says that it prints, and its lines against their answers. */
public final class ReadmeTest {
    private static final Pattern BLOCK = Pattern.compile("(?ms)^```(\\w+)\n(.*?)^```$");
    /** A call, and what it answers, with a word on it behind a colon. */
    private static final Pattern LINE = Pattern.compile("(finder\\..*\\)); +// (throws \\w+|.*?)(: .*)?");

    private ReadmeTest() {
    }

    public static void main(String[] args) throws IOException, InterruptedException, ReflectiveOperationException {
        String page = Files.readString(Path.of("README.md"));
        List<String> java = blocks(page, "java");
        Path folder = Files.createTempDirectory("readme");
        Path program = folder.resolve("Example.java");
        Path lines = folder.resolve("Lines.java");
        Files.writeString(program, java.get(0));
        Files.writeString(lines, classOf(java.subList(1, java.size())));
        int code = new ProcessBuilder("javac", "-encoding", "UTF-8", "-cp", System.getProperty("java.class.path"),
            "-d", folder.toString(), program.toString(), lines.toString()).inheritIO().start().waitFor();
        Checks.due("the page's program and lines compile", 0, () -> code);
        if (code == 0) {
            try (URLClassLoader loader = new URLClassLoader(new URL[] {folder.toUri().toURL()})) {
                String printed = printed(loader.loadClass("Example"));
                Checks.due("the page's program prints", blocks(page, "text").get(0), () -> printed);
                loader.loadClass("Lines").getMethod("run").invoke(null);
            }
        }
        everyCall(page);
        delete(folder);
        Checks.end("ReadmeTest");
    }

    private static void delete(Path folder) throws IOException {
        try (Stream<Path> files = Files.list(folder)) {
            for (Path file : files.toList()) {
                Files.delete(file);
            }
        }
        Files.delete(folder);
    }

    private static List<String> blocks(String page, String kind) {
        List<String> all = new ArrayList<>();
        Matcher block = BLOCK.matcher(page);
        while (block.find()) {
            if (block.group(1).equals(kind)) {
                all.add(block.group(2));
            }
        }
        return all;
    }

    /** All lines as one method: an answer is an expression, too, so that it can say word("cat"). */
    private static String classOf(List<String> blocks) {
        StringBuilder body = new StringBuilder();
        for (String line : String.join("", blocks).lines().toList()) {
            Matcher call = LINE.matcher(line);
            if (!call.matches()) {
                Checks.due("a put() or a call with its answer: " + line, true, () -> line.startsWith("put(finder, \""));
                body.append(line);
            } else if (call.group(2).startsWith("throws")) {
                body.append(check(line, "\"" + call.group(2) + "\"", call.group(1)));
            } else {
                body.append(check(line, "\"\" + (" + call.group(2) + ")", call.group(1)));
            }
            body.append('\n');
        }
        return "public class Lines extends Example { public static void run() {"
            + " WordFinder finder = new WordFinder();\n" + body + "} }\n";
    }

    private static String check(String line, String want, String call) {
        String name = line.replace("\\", "\\\\").replace("\"", "\\\"");
        return "ReadmeTest.holds(\"" + name + "\", " + want + ", () -> " + call + ");";
    }

    /** Called by the lines, which come from another class loader. */
    public static void holds(String line, String want, Call call) {
        Checks.due(line, want, () -> "" + Checks.outcome(call::answer));
    }

    public interface Call {
        Object answer();
    }

    private static String printed(Class<?> program) throws ReflectiveOperationException {
        PrintStream usual = System.out;
        ByteArrayOutputStream printed = new ByteArrayOutputStream();
        System.setOut(new PrintStream(printed, true));
        try {
            program.getMethod("main", String[].class).invoke(null, (Object) new String[0]);
        } catch (InvocationTargetException e) {
            return "throws " + e.getCause();
        } finally {
            System.setOut(usual);
        }
        return printed.toString().replace("\r\n", "\n");
    }

    /** A reader of the page meets each call of the face. */
    private static void everyCall(String page) {
        for (Method method : WordFinder.class.getDeclaredMethods()) {
            String name = method.getName();
            if (Modifier.isPublic(method.getModifiers())) {
                Checks.due("the page names " + name, true,
                    () -> page.contains("finder." + name + "(") || page.contains("`" + name + "`"));
            }
        }
    }
}
