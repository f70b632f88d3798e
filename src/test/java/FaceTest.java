import java.io.IOException;
import java.lang.reflect.Constructor;
import java.lang.reflect.Executable;
import java.lang.reflect.Field;
import java.lang.reflect.Method;
import java.lang.reflect.Modifier;
import java.nio.charset.StandardCharsets;
import java.nio.file.Files;
import java.nio.file.Path;
import java.util.ArrayList;
import java.util.List;
import java.util.Set;
import java.util.TreeSet;
import java.util.regex.Matcher;
import java.util.regex.Pattern;

/** The public face of the document, and the rules of LANGUAGE.md that can be seen from outside or in the text. */
public final class FaceTest {
    private static final String SOURCE = "src/main/java/DependencyPairAnalyzer.java";
    private static final Path DOCUMENT = Path.of("../shared/DOC.md");
    private static final int CONSTANTS = 7;
    private static final int PROMISES = 50;
    // Words and signs of the rules 2, 4, 6, 10 and 13.
    private static final String[] REFUSED = {
        "\\b(throw|throws|try|catch|finally|synchronized|assert|import|package|native|volatile|transient)\\b",
        "->", "::", "\\bprotected\\b", "\\bequals\\b", "\\bhashCode\\b", "\\btoString\\b", "Exact\\b", "@",
        "\"", "\\bString\\b", "\\bObject\\b", "System\\.(?!arraycopy)", "\\bThread\\b", "\\brandom\\b"
    };

    private static int wrong = 0;

    private static void check(boolean holds, String what) {
        if (!holds) {
            wrong++;
            System.out.println(what);
        }
    }

    /** The public members that the document prints between the braces of the class, in its order. */
    private static List<String> printedFace(String document) {
        Matcher block = Pattern.compile("(?s)```java\npublic final class DependencyPairAnalyzer \\{\n(.*?)\n\\}\n```")
                .matcher(document);
        check(block.find(), "the document prints no face");
        List<String> members = new ArrayList<>();
        for (String line : block.group(1).split("\n")) {
            check(line.matches("    public .*;"), "the face has a line that is no public member: " + line);
            members.add(line.trim().replaceAll(";$", ""));
        }
        return members;
    }

    private static List<String> found(String pattern, String text) {
        List<String> found = new ArrayList<>();
        Matcher matcher = Pattern.compile(pattern).matcher(text);
        while (matcher.find()) {
            found.add(matcher.group(1));
        }
        return found;
    }

    /** The face as the document prints it: in the source, in the class file, and once more at the promises. */
    private static void face(String document, String source) throws IllegalAccessException {
        List<String> printed = printedFace(document);
        Set<String> written = new TreeSet<>(found("(?m)^ {4}(public [^={]*?(?: = -?\\d+)?)(?:;| \\{)$", source));
        check(written.equals(new TreeSet<>(printed)), "the public members of the source are " + written);
        Set<String> compiled = new TreeSet<>();
        for (Field field : DependencyPairAnalyzer.class.getDeclaredFields()) {
            if (!Modifier.isPrivate(field.getModifiers())) {
                compiled.add(Modifier.toString(field.getModifiers()) + " " + field.getType() + " " + field.getName()
                        + " = " + field.getInt(null));
            }
        }
        for (Method method : DependencyPairAnalyzer.class.getDeclaredMethods()) {
            if (!Modifier.isPrivate(method.getModifiers())) {
                compiled.add(Modifier.toString(method.getModifiers()) + " " + method.getReturnType() + " "
                        + method.getName() + types(method));
            }
        }
        for (Constructor<?> constructor : DependencyPairAnalyzer.class.getDeclaredConstructors()) {
            compiled.add(Modifier.toString(constructor.getModifiers()) + " " + constructor.getName()
                    + types(constructor));
        }
        Set<String> nameless = new TreeSet<>();
        for (String member : printed) {
            nameless.add(member.replaceAll("int \\w+([,)])", "int$1"));
        }
        check(compiled.equals(nameless), "the members that are not private are " + compiled);
        check(Modifier.toString(DependencyPairAnalyzer.class.getModifiers()).equals("public final"), "the class is "
                + Modifier.toString(DependencyPairAnalyzer.class.getModifiers()));
        promised(document, printed);
    }

    private static String types(Executable member) {
        List<String> types = new ArrayList<>();
        for (Class<?> type : member.getParameterTypes()) {
            types.add(type.getName());
        }
        return "(" + String.join(", ", types) + ")";
    }

    /** The document tells each constant and each signature a second time. */
    private static void promised(String document, List<String> printed) {
        List<String> told = new ArrayList<>();
        for (String constant : found("(?m)^- `([A-Z_]+ = -\\d)`: ", document)) {
            told.add("public static final int " + constant);
        }
        for (String signature : found("(?m)^## Promise \\d+: .*\n\n`(.*)`$", document)) {
            told.add("public " + signature);
        }
        check(told.equals(printed), "the constants and the promises are " + told);
        check(printed.size() == CONSTANTS + PROMISES, "the face has " + printed.size() + " members");
    }

    private static void inside() {
        Class<?> type = DependencyPairAnalyzer.class;
        Set<String> publicNames = new TreeSet<>();
        for (Method method : type.getDeclaredMethods()) {
            if (Modifier.isPublic(method.getModifiers())) {
                publicNames.add(method.getName());
            }
        }
        check(type.getDeclaredClasses().length < 12, "more than twelve classes");
        for (Method method : type.getDeclaredMethods()) {
            boolean hidden = Modifier.isPrivate(method.getModifiers());
            check(!hidden || !publicNames.contains(method.getName()), method + " bears a public name");
        }
        for (Class<?> nested : type.getDeclaredClasses()) {
            check(Modifier.isStatic(nested.getModifiers()), nested + " is not static");
            check(!Modifier.isPublic(nested.getModifiers()), nested + " is public");
            for (Method method : nested.getDeclaredMethods()) {
                check(!publicNames.contains(method.getName()), method + " bears a public name");
                check(method.getParameterCount() <= 7, method + " has more than seven parameters");
            }
            fields(nested);
        }
        fields(type);
    }

    private static void fields(Class<?> type) {
        int count = 0;
        for (Field field : type.getDeclaredFields()) {
            if (Modifier.isStatic(field.getModifiers())) {
                check(Modifier.isFinal(field.getModifiers()), field + " is static and not final");
            } else {
                count++;
            }
        }
        check(count <= 20, type + " has " + count + " fields");
    }

    private static void text(String source) {
        String code = source.replaceAll("(?s)/\\*.*?\\*/", "").replaceAll("//[^\n]*", "");
        for (String refused : REFUSED) {
            Matcher matcher = Pattern.compile(refused).matcher(code);
            if (matcher.find()) {
                check(false, "the source has " + matcher.group());
            }
        }
        int start = 0;
        String[] lines = source.split("\n");
        for (int i = 0; i < lines.length; i++) {
            check(lines[i].length() <= 120, "line " + (i + 1) + " is longer than 120 characters");
            if (lines[i].matches("( {4}| {8})(private|public|static|boolean|int|void|Term|[A-Z]).*\\) \\{")) {
                start = i;
            }
            if (lines[i].matches("( {4}| {8})\\}")) {
                check(lines[start].contains(" class ") || i - start < 60,
                        "the method of line " + (start + 1) + " is long");
            }
        }
    }

    public static void main(String[] args) throws IllegalAccessException, IOException {
        String document = Files.readString(DOCUMENT, StandardCharsets.UTF_8);
        String source = Files.readString(Path.of(SOURCE), StandardCharsets.US_ASCII);
        face(document, source);
        inside();
        text(source);
        System.out.println(wrong == 0 ? "the face and the rules are kept" : wrong + " faults");
        if (wrong != 0) {
            System.exit(1);
        }
    }
}
