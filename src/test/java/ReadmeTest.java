import java.io.IOException;
import java.net.URL;
import java.net.URLClassLoader;
import java.nio.file.Files;
import java.nio.file.Path;
import java.util.ArrayList;
import java.util.List;
import java.util.Set;
import java.util.TreeSet;
import java.util.regex.Matcher;
import java.util.regex.Pattern;
import java.util.stream.Collectors;
import java.util.stream.Stream;
import javax.tools.ToolProvider;

/** What README.md says is so: its example compiles and answers as told, and it names every call and every test. */
public final class ReadmeTest {
    private static final Pattern TOLD = Pattern.compile("^(x\\.\\w+\\(.*\\));\\s*// (-?\\d+|[A-Z]+)\\b.*$");

    public static void main(String[] args) throws Exception {
        String readme = Files.readString(Path.of("README.md"));
        List<String> blocks = blocks(readme, "java");
        Check.yes("README.md has a method that feeds and an example", blocks.size() == 2);
        if (blocks.size() == 2) {
            example(blocks.get(0), blocks.get(1));
        }
        calls(readme);
        tests(readme);
        Check.end();
    }

    private static List<String> blocks(String readme, String language) {
        List<String> found = new ArrayList<>();
        Matcher m = Pattern.compile("(?s)```" + language + "\n(.*?)```").matcher(readme);
        while (m.find()) {
            found.add(m.group(1));
        }
        return found;
    }

    private static void example(String method, String body) throws Exception {
        StringBuilder s = new StringBuilder("public final class Example {\n").append(method)
                .append("public static void run(java.util.List<String> wrong) {\n");
        int answers = 0;
        for (String line : body.split("\n")) {
            Matcher told = TOLD.matcher(line);
            if (told.matches()) {
                answers++;
                s.append(asked(told.group(1), told.group(2)));
            } else {
                Check.yes("an answer is told of: " + line, !line.startsWith("x."));
                s.append(line);
            }
            s.append('\n');
        }
        Check.yes("the example tells answers", answers > 0);
        runExample(s.append("}}\n").toString());
    }

    private static String asked(String call, String due) {
        String number = Character.isLetter(due.charAt(0)) ? "OatFerry." + due : due;
        return "{ int got = " + call + "; if (got != " + number + ") wrong.add(\"" + call + " answered \" + got + \", told is "
                + due + "\"); }";
    }

    private static void runExample(String source) throws Exception {
        Path folder = Files.createTempDirectory("readme");
        Path file = folder.resolve("Example.java");
        try {
            Files.writeString(file, source);
            int failed = ToolProvider.getSystemJavaCompiler().run(null, null, null, "-cp",
                    System.getProperty("java.class.path"), "-d", folder.toString(), file.toString());
            Check.due("the example compiles", failed, 0);
            if (failed == 0) {
                callExample(folder);
            }
        } finally {
            Files.deleteIfExists(file);
            Files.deleteIfExists(folder.resolve("Example.class"));
            Files.deleteIfExists(folder);
        }
    }

    private static void callExample(Path folder) throws Exception {
        List<String> wrong = new ArrayList<>();
        try (URLClassLoader loader = new URLClassLoader(new URL[] {folder.toUri().toURL()})) {
            loader.loadClass("Example").getMethod("run", List.class).invoke(null, wrong);
        }
        wrong.forEach(System.out::println);
        Check.due("answers of the example that are otherwise", wrong.size(), 0);
    }

    /** The table names each public method. */
    private static void calls(String readme) {
        Set<String> named = new TreeSet<>();
        for (String line : readme.split("\n")) {
            Matcher m = Pattern.compile("`(\\w+)`").matcher(line.startsWith("|") ? line : "");
            while (m.find()) {
                named.add(m.group(1));
            }
        }
        Set<String> are = Stream.of(OatFerry.class.getDeclaredMethods())
                .filter(m -> java.lang.reflect.Modifier.isPublic(m.getModifiers()))
                .map(java.lang.reflect.Method::getName).collect(Collectors.toCollection(TreeSet::new));
        Check.yes("the calls of the table are those of the class: " + named, named.equals(are));
    }

    private static void tests(String readme) throws IOException {
        Set<String> named = new TreeSet<>();
        Matcher m = Pattern.compile("`(\\w+Test)`").matcher(readme);
        while (m.find()) {
            named.add(m.group(1));
        }
        Set<String> are = new TreeSet<>();
        try (Stream<Path> files = Files.list(Path.of("src/test/java"))) {
            files.map(f -> f.getFileName().toString()).filter(f -> f.endsWith("Test.java"))
                    .forEach(f -> are.add(f.replace(".java", "")));
        }
        Check.yes("README.md names " + named + ", there are " + are, named.equals(are));
        List<String> commands = blocks(readme, "sh");
        Check.yes("the command is .ci/run", commands.size() == 1 && commands.get(0).strip().equals(".ci/run"));
        Check.yes(".ci/run can be run", Files.isExecutable(Path.of(".ci/run")));
    }
}
