import java.io.IOException;
import java.lang.reflect.Method;
import java.lang.reflect.Modifier;
import java.net.URL;
import java.net.URLClassLoader;
import java.nio.file.Files;
import java.nio.file.Path;
import java.util.ArrayList;
import java.util.Comparator;
import java.util.List;
import java.util.Set;
import java.util.TreeSet;
import java.util.regex.Matcher;
import java.util.regex.Pattern;
import java.util.stream.Stream;
import javax.tools.ToolProvider;

/** The example of README.md is compiled as it stands there, and each call answers what is said behind it. */
public final class ReadmeTest {
    private static final Check CHECK = new Check();
    private static final Pattern BLOCK = Pattern.compile("```java\n(.*?)```", Pattern.DOTALL);
    private static final Pattern CALL = Pattern.compile("(\\S.*?\\));\\s+// (-?\\d+|BAD|NO|FULL|NONE): .*");

    public static void main(String[] args) throws IOException, ReflectiveOperationException {
        List<String> blocks = new ArrayList<>();
        Matcher found = BLOCK.matcher(Files.readString(Path.of("README.md")));
        while (found.find()) {
            blocks.add(found.group(1));
        }
        CHECK.due("blocks of README.md", 2, blocks.size());
        if (blocks.size() == 2) {
            Path place = Files.createTempDirectory("readme");
            try {
                run(place, sourceOf(blocks.get(0), blocks.get(1)));
            } finally {
                remove(place);
            }
            callsAreShown(blocks.get(1));
        }
        CHECK.end();
    }

    /** Called by the class that is made of the example. */
    public static void due(String call, int want, int got) {
        CHECK.due("README.md: " + call, want, got);
    }

    private static String sourceOf(String helper, String example) {
        StringBuilder source = new StringBuilder("public class Example {\n").append(helper)
            .append("public static void run() {\n");
        for (String row : example.split("\n")) {
            Matcher call = CALL.matcher(row);
            boolean isCall = call.matches();
            CHECK.isTrue("README.md tells what this answers: " + row,
                isCall || row.isEmpty() || row.equals("DeclarationHall hall = new DeclarationHall();"));
            source.append(isCall ? asDue(call.group(1), call.group(2)) : row).append('\n');
        }
        return source.append("}\n}\n").toString();
    }

    private static String asDue(String call, String want) {
        String due = Character.isLetter(want.charAt(0)) ? "DeclarationHall." + want : want;
        return "ReadmeTest.due(\"" + call.replace("\"", "\\\"") + "\", " + due + ", " + call + ");";
    }

    private static void run(Path place, String source) throws IOException, ReflectiveOperationException {
        Path file = Files.writeString(place.resolve("Example.java"), source);
        int failed = ToolProvider.getSystemJavaCompiler().run(null, null, null, "-cp",
            System.getProperty("java.class.path"), "-d", place.toString(), file.toString());
        CHECK.due("compiling the example of README.md", 0, failed);
        if (failed == 0) {
            try (URLClassLoader loader = new URLClassLoader(new URL[] {place.toUri().toURL()})) {
                loader.loadClass("Example").getMethod("run").invoke(null);
            }
        }
    }

    private static void remove(Path place) throws IOException {
        try (Stream<Path> inside = Files.walk(place)) {
            for (Path path : inside.sorted(Comparator.reverseOrder()).toList()) {
                Files.delete(path);
            }
        }
    }

    /** Those for the tape stand in the helper. */
    private static void callsAreShown(String example) {
        Set<String> missing = new TreeSet<>();
        for (Method method : DeclarationHall.class.getDeclaredMethods()) {
            boolean isShown = example.contains("hall." + method.getName() + "(");
            if (Modifier.isPublic(method.getModifiers()) && !isShown) {
                missing.add(method.getName());
            }
        }
        CHECK.isTrue("README.md shows every call but these: " + missing,
            missing.equals(new TreeSet<>(List.of("feed", "trim", "declare"))));
    }
}
