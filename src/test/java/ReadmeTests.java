import java.net.URL;
import java.net.URLClassLoader;
import java.nio.file.Files;
import java.nio.file.Path;
import java.util.ArrayList;
import java.util.Arrays;
import java.util.HashSet;
import java.util.List;
import java.util.Set;
import java.util.regex.Matcher;
import java.util.regex.Pattern;
import javax.tools.JavaCompiler;
import javax.tools.ToolProvider;

/** The calls that README.md shows: the page's Java compiles as it stands there, and each call answers the number behind it. */
public final class ReadmeTests extends Checks {
    private static final Pattern BLOCK = Pattern.compile("(?s)```java\n(.*?)```");
    private static final Pattern CALL = Pattern.compile("((\\w+)\\.(\\w+)\\(.*\\));\\s*// (-?\\d+)(:.*)?");
    private static final Path ROOM = Path.of("build", "readme");

    private static final List<String> calls = new ArrayList<>();
    private static final List<Integer> numbers = new ArrayList<>();
    private static final Set<String> shown = new HashSet<>();

    public static void main(String[] arguments) throws Exception {
        String page = Files.readString(Path.of("README.md"));
        sentence("README.md", "The numbers in the comments below are what the calls answer");
        answers(program(page));
        sentence("README.md", "the page shows a call of each method");
        for (String method : methods()) due(method + " is shown (1)", shown.contains(method) ? 1 : 0, 1);
        sentence("README.md", "To run one alone (a class of the project's tests)");
        allTestsAreNamed(page);
        finish();
    }

    private static String[] methods() {
        return Arrays.stream(DiscourseContexts.class.getMethods())
            .filter(method -> method.getDeclaringClass() == DiscourseContexts.class)
            .map(method -> method.getName()).toArray(String[]::new);
    }

    /** The page's Java as a class that collects the answers of the calls with a number behind them. */
    private static String program(String page) {
        StringBuilder members = new StringBuilder();
        StringBuilder statements = new StringBuilder();
        Matcher block = BLOCK.matcher(page);
        while (block.find()) {
            String code = block.group(1);
            if (code.startsWith("static ")) members.append(code);
            else code.lines().forEach(line -> statements.append(statement(line)).append('\n'));
        }
        return "public final class ReadmeExample {\n" + members
            + "public static java.util.List<Integer> answers() {\njava.util.List<Integer> answers = new java.util.ArrayList<>();\n"
            + statements + "return answers;\n}\n}\n";
    }

    private static String statement(String line) {
        Matcher call = CALL.matcher(line);
        if (!call.matches()) return line;
        calls.add(call.group(1));
        shown.add(call.group(3));
        numbers.add(Integer.valueOf(call.group(4)));
        return "answers.add(" + call.group(1) + ");";
    }

    private static void answers(String program) throws Exception {
        Files.createDirectories(ROOM);
        Path source = Files.writeString(ROOM.resolve("ReadmeExample.java"), program);
        JavaCompiler compiler = ToolProvider.getSystemJavaCompiler();
        String classes = System.getProperty("java.class.path");
        int fault = compiler.run(null, null, null, "-encoding", "UTF-8", "-cp", classes, "-d", ROOM.toString(), source.toString());
        due("the compiler, for the page's Java,", fault, 0);
        if (fault != 0) return;
        try (URLClassLoader loader = new URLClassLoader(new URL[] {ROOM.toUri().toURL()})) {
            List<?> got = (List<?>) loader.loadClass("ReadmeExample").getMethod("answers").invoke(null);
            due("the number of calls that answered", got.size(), calls.size());
            for (int i = 0; i < calls.size(); i++) due(calls.get(i), (Integer) got.get(i), numbers.get(i));
        }
    }

    private static void allTestsAreNamed(String page) throws Exception {
        try (var files = Files.list(Path.of("src", "test", "java"))) {
            for (Path file : files.toList()) {
                String name = file.getFileName().toString().replace(".java", "");
                due(name + " is named (1)", page.contains("`" + name + "`") ? 1 : 0, 1);
            }
        }
    }
}
