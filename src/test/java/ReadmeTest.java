import java.io.ByteArrayOutputStream;
import java.io.PrintStream;
import java.lang.reflect.Method;
import java.lang.reflect.Modifier;
import java.net.URL;
import java.net.URLClassLoader;
import java.nio.file.Files;
import java.nio.file.Path;
import java.util.ArrayList;
import java.util.Arrays;
import java.util.List;
import java.util.regex.Matcher;
import java.util.regex.Pattern;
import java.util.stream.Stream;
import javax.tools.ToolProvider;

/** README.md: its example compiles and prints what it says, and it tells each public method. */
public final class ReadmeTest {
    private static final String FENCE = "```";
    private static final Pattern PRINTED = Pattern.compile("System\\.out\\.println\\(.*\\); // (.*)");

    private ReadmeTest() {
    }

    public static void main(String[] args) throws Exception {
        String readme = Files.readString(Path.of(System.getProperty("project.root", "."), "README.md"));
        String example = exampleOf(readme);
        List<String> due = dueLines(example);
        Hand.about("README.md");
        Hand.due("lines that its example prints, some", due.size() > 5, true);
        List<String> got = printedBy(example);
        Hand.due("lines that its example prints", got.size(), due.size());
        for (int i = 0; i < Math.min(due.size(), got.size()); i++) {
            Hand.due("line " + i + " is " + got.get(i) + ", told " + due.get(i), got.get(i).equals(due.get(i)), true);
        }
        for (Method m : BracketRoom.class.getDeclaredMethods()) {
            if (Modifier.isPublic(m.getModifiers())) {
                Hand.due("it tells " + m.getName(), readme.contains("`" + m.getName() + "`"), true);
            }
        }
        for (String name : new String[] {".ci/run", "../shared/DOC.md", "../shared/LANGUAGE.md"}) {
            Hand.due("it tells " + name, readme.contains(name), true);
        }
        Hand.end("ReadmeTest");
    }

    private static String exampleOf(String readme) {
        int from = readme.indexOf(FENCE + "java\n");
        int to = from < 0 ? -1 : readme.indexOf("\n" + FENCE, from);
        if (to < 0) {
            throw new IllegalStateException("README.md has no example");
        }
        return readme.substring(from + FENCE.length() + 5, to + 1);
    }

    private static List<String> dueLines(String example) {
        List<String> due = new ArrayList<>();
        Matcher m = PRINTED.matcher(example);
        while (m.find()) {
            due.add(m.group(1).trim());
        }
        return due;
    }

    private static List<String> printedBy(String example) throws Exception {
        Path place = Files.createTempDirectory("readme");
        PrintStream usual = System.out;
        ByteArrayOutputStream bytes = new ByteArrayOutputStream();
        try {
            Path source = place.resolve("Example.java");
            Files.writeString(source, example);
            int code = ToolProvider.getSystemJavaCompiler().run(null, null, null, "-cp",
                    System.getProperty("java.class.path"), "-d", place.toString(), source.toString());
            if (code != 0) {
                return List.of("the example does not compile");
            }
            System.setOut(new PrintStream(bytes, true));
            try (URLClassLoader loader = new URLClassLoader(new URL[] {place.toUri().toURL()})) {
                loader.loadClass("Example").getMethod("main", String[].class).invoke(null, (Object) new String[0]);
            }
        } finally {
            System.setOut(usual);
            remove(place);
        }
        return Arrays.asList(bytes.toString().trim().split("\\R"));
    }

    private static void remove(Path place) throws Exception {
        try (Stream<Path> files = Files.list(place)) {
            for (Path file : (Iterable<Path>) files::iterator) {
                Files.delete(file);
            }
        }
        Files.delete(place);
    }
}
