import java.io.IOException;
import java.lang.reflect.Method;
import java.nio.charset.StandardCharsets;
import java.nio.file.Files;
import java.nio.file.Path;
import java.util.Arrays;
import java.util.regex.Matcher;
import java.util.regex.Pattern;

/** The five examples of the document's description, read from the document itself. */
public final class ExampleTest {
    private static final Path DOCUMENT = Path.of("../shared/DOC.md");
    private static final int EXAMPLES = 5;
    private static final int ANSWERS = 18;
    private static final Pattern EXAMPLE = Pattern.compile("(?m)^(\\d)\\. [^:]*: ((?:.*\n)(?: +.*\n)*)");
    private static final Pattern TEXT = Pattern.compile("appendCharacter for each character of \"(.*)\"");
    private static final Pattern CALL = Pattern.compile("(\\w+)\\(([-\\d, ]*)\\) = (-?\\d+)");

    private static int wrong = 0;
    private static int examples = 0;
    private static int answers = 0;

    private static void fault(String what) {
        wrong++;
        System.out.println(what);
    }

    private static void due(String call, int got, int want) {
        if (got != want) {
            fault(call + " answered " + got + ", due is " + want);
        }
    }

    private static void type(DependencyPairAnalyzer analyzer, String text) {
        for (int i = 0; i < text.length(); i++) {
            due("appendCharacter of " + text, analyzer.appendCharacter(text.charAt(i)), i + 1);
        }
    }

    private static void call(DependencyPairAnalyzer analyzer, String name, String list, int want)
            throws ReflectiveOperationException {
        String[] words = list.isEmpty() ? new String[0] : list.split(", ");
        Object[] arguments = new Object[words.length];
        Class<?>[] types = new Class<?>[words.length];
        for (int i = 0; i < words.length; i++) {
            arguments[i] = Integer.parseInt(words[i]);
        }
        Arrays.fill(types, int.class);
        Method method = DependencyPairAnalyzer.class.getMethod(name, types);
        due(examples + ": " + name + "(" + list + ")", (int) method.invoke(analyzer, arguments), want);
        answers++;
    }

    /** The steps of an example are separated by semicolons; a full stop ends it. */
    private static void example(String steps) throws ReflectiveOperationException {
        DependencyPairAnalyzer analyzer = new DependencyPairAnalyzer();
        examples++;
        for (String step : steps.trim().replaceAll("\\s+", " ").replaceAll("\\.$", "").split("; ")) {
            Matcher text = TEXT.matcher(step);
            Matcher call = CALL.matcher(step);
            if (text.matches()) {
                type(analyzer, text.group(1));
            } else if (call.matches()) {
                call(analyzer, call.group(1), call.group(2), Integer.parseInt(call.group(3)));
            } else {
                fault("example " + examples + " has a step that cannot be read: " + step);
            }
        }
    }

    public static void main(String[] args) throws IOException, ReflectiveOperationException {
        String document = Files.readString(DOCUMENT, StandardCharsets.UTF_8);
        String part = document.substring(document.indexOf("\nExamples: "), document.indexOf("\nThe constants:"));
        Matcher example = EXAMPLE.matcher(part);
        while (example.find()) {
            example(example.group(2));
            if (Integer.parseInt(example.group(1)) != examples) {
                fault("example " + example.group(1) + " is the one with number " + examples);
            }
        }
        // Counted by hand, so that no step is lost in reading.
        due("the number of examples", examples, EXAMPLES);
        due("the number of answers", answers, ANSWERS);
        System.out.println(wrong == 0 ? "all answers are as due" : wrong + " answers are not as due");
        if (wrong != 0) {
            System.exit(1);
        }
    }
}
