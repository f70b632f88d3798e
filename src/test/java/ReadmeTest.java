import java.io.IOException;
import java.io.PrintWriter;
import java.io.StringWriter;
import java.lang.reflect.Method;
import java.lang.reflect.Modifier;
import java.net.URL;
import java.net.URLClassLoader;
import java.nio.charset.StandardCharsets;
import java.nio.file.Files;
import java.nio.file.Path;
import java.util.ArrayList;
import java.util.List;
import java.util.regex.Matcher;
import java.util.regex.Pattern;
import java.util.spi.ToolProvider;

/**
 * The Java of README.md: it compiles, each call has the answer that stands behind it, and each method of the face is
 * called. The blocks follow each other in one method, but for a block with a method of its own.
 */
public final class ReadmeTest {
    private static final Path README = Path.of("README.md");
    private static final Path FOLDER = Path.of("build/readme");
    private static final Pattern BLOCK = Pattern.compile("(?s)```java\n(.*?)```");
    private static final Pattern ANSWER = Pattern.compile("(analyzer\\.\\w+\\(.*?\\)); +// (-?\\d+)(?=$|[ ,:]).*");

    private static int wrong = 0;
    private static int answers = 0;

    private static void fault(String what) {
        wrong++;
        System.out.println(what);
    }

    /** Called by the program that is made of the README. */
    public static void due(String call, int got, int want) {
        answers++;
        if (got != want) {
            fault(call + " answered " + got + ", README.md says " + want);
        }
    }

    /** A call with an answer behind it becomes a comparison. */
    private static String compared(String line) {
        Matcher answer = ANSWER.matcher(line);
        if (answer.matches()) {
            String call = answer.group(1);
            return "ReadmeTest.due(\"" + call + "\", " + call + ", " + answer.group(2) + ");";
        }
        if (line.startsWith("analyzer.")) {
            fault("README.md has a call without an answer: " + line);
        }
        return line;
    }

    private static String program(String readme) {
        StringBuilder members = new StringBuilder();
        StringBuilder body = new StringBuilder();
        Matcher block = BLOCK.matcher(readme);
        while (block.find()) {
            if (block.group(1).startsWith("static ")) {
                members.append(block.group(1));
            } else {
                for (String line : block.group(1).split("\n")) {
                    body.append(compared(line)).append('\n');
                }
            }
        }
        return "public final class ReadmeProgram {\n" + members + "public static void run() {\n" + body + "}\n}\n";
    }

    private static boolean compile(String program) throws IOException {
        Path source = FOLDER.resolve("ReadmeProgram.java");
        Files.createDirectories(FOLDER);
        Files.writeString(source, program, StandardCharsets.US_ASCII);
        List<String> arguments = new ArrayList<>(List.of("--release", "17", "-d", FOLDER.toString()));
        arguments.addAll(List.of("-cp", System.getProperty("java.class.path"), source.toString()));
        StringWriter out = new StringWriter();
        ToolProvider javac = ToolProvider.findFirst("javac").orElseThrow();
        boolean done = javac.run(new PrintWriter(out), new PrintWriter(out), arguments.toArray(new String[0])) == 0;
        if (!done) {
            fault("the Java of README.md does not compile: " + out);
        }
        return done;
    }

    private static void run() throws IOException, ReflectiveOperationException {
        URL[] folders = {FOLDER.toUri().toURL()};
        try (URLClassLoader loader = new URLClassLoader(folders, ReadmeTest.class.getClassLoader())) {
            loader.loadClass("ReadmeProgram").getMethod("run").invoke(null);
        }
    }

    private static void checkCalled(String program) {
        for (Method method : DependencyPairAnalyzer.class.getDeclaredMethods()) {
            boolean called = program.contains("analyzer." + method.getName() + "(");
            if (Modifier.isPublic(method.getModifiers()) && !called) {
                fault("README.md does not call " + method.getName());
            }
        }
    }

    public static void main(String[] args) throws IOException, ReflectiveOperationException {
        String program = program(Files.readString(README, StandardCharsets.US_ASCII));
        checkCalled(program);
        if (compile(program)) {
            run();
        }
        System.out.println(answers + " answers of README.md compared");
        if (wrong != 0 || answers == 0) {
            System.out.println(wrong + " faults");
            System.exit(1);
        }
    }
}
