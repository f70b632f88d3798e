import java.io.IOException;
import java.lang.reflect.Constructor;
import java.lang.reflect.Field;
import java.lang.reflect.Method;
import java.lang.reflect.Modifier;
import java.nio.charset.StandardCharsets;
import java.nio.file.Files;
import java.nio.file.Path;
import java.util.Set;
import java.util.TreeSet;
import java.util.regex.Matcher;
import java.util.regex.Pattern;

/** The public face of the document, and the rules of LANGUAGE.md that can be seen from outside or in the text. */
public final class FaceTest {
    private static final String SOURCE = "src/main/java/DependencyPairAnalyzer.java";
    private static final String[] FACE = {
        "setArity 2", "arity 1", "addRule 0", "removeRule 1", "ruleCount 0", "leftSize 1", "rightSize 1",
        "pairCount 0", "pairRule 1", "pairPosition 1", "sourceFunction 1", "targetFunction 1", "hasEdge 2",
        "edgeCount 0", "componentCount 0", "componentOf 1", "sizeRelation 3", "closureSize 0", "idempotentCount 0",
        "terminatesBySizeChange 0", "projection 1", "eliminationRounds 0", "remainingPairCount 0",
        "remainingComponentCount 0", "terminatesBySubtermCriterion 0", "parseTerm 1", "termSize 1",
        "formattedLength 1", "formattedCharacter 2", "compareTerms 2", "copyTerm 2", "loadLeft 2", "loadRight 2",
        "matches 3", "redexCount 1", "redexAt 2", "rewriteAt 2", "rewriteOutermost 2", "findLoop 2",
        "exploredCount 2", "exploredNormalForms 2", "lastExploredSize 2", "loadNormalForm 3",
        "normalFormRegisterCount 0", "appendCharacter 1", "clearText 0", "textLength 0", "saveSnapshot 0",
        "restoreSnapshot 0"
    };
    private static final String[] CONSTANTS = {
        "NO_SUCH_ELEMENT -1", "OUT_OF_RANGE -2", "NOT_POSSIBLE -3", "FULL -4", "NOT_FOUND -5", "INVALID -6",
        "TOO_LARGE -8"
    };
    // Words and signs of the rules 2, 4, 6, 10 and 13.
    private static final String[] REFUSED = {
        "\\b(throw|throws|try|catch|finally|synchronized|assert|import|package|native|volatile|transient)\\b",
        "->", "::", "\\bprotected\\b", "\\bequals\\b", "\\bhashCode\\b", "\\btoString\\b", "Exact\\b", "@",
        "\"", "\\bString\\b", "\\bObject\\b", "System\\.(?!arraycopy)", "\\bThread\\b", "\\brandom\\b"
    };

    private static int wrong = 0;

    private static void check(boolean holds, String what) {
        if (!holds) {
            wrong++;
            System.out.println(what);
        }
    }

    private static void face() throws IllegalAccessException {
        Class<?> type = DependencyPairAnalyzer.class;
        Set<String> methods = new TreeSet<>();
        Set<String> publicNames = new TreeSet<>();
        for (Method method : type.getDeclaredMethods()) {
            if (!Modifier.isPrivate(method.getModifiers())) {
                check(Modifier.isPublic(method.getModifiers()), method + " is neither public nor private");
                check(!Modifier.isStatic(method.getModifiers()), method + " is static");
                check(method.getReturnType() == int.class, method + " does not return int");
                for (Class<?> parameter : method.getParameterTypes()) {
                    check(parameter == int.class, method + " takes something that is no int");
                }
                methods.add(method.getName() + " " + method.getParameterCount());
                publicNames.add(method.getName());
            }
        }
        check(methods.equals(new TreeSet<>(Set.of(FACE))), "the public methods are " + methods);
        Set<String> constants = new TreeSet<>();
        for (Field field : type.getDeclaredFields()) {
            if (!Modifier.isPrivate(field.getModifiers())) {
                constants.add(field.getName() + " " + field.getInt(null));
            }
        }
        check(constants.equals(new TreeSet<>(Set.of(CONSTANTS))), "the public constants are " + constants);
        Constructor<?>[] constructors = type.getDeclaredConstructors();
        check(constructors.length == 1 && constructors[0].getParameterCount() == 0, "the constructors differ");
        check(Modifier.isPublic(type.getModifiers()) && Modifier.isFinal(type.getModifiers()), "class not public final");
        inside(type, publicNames);
    }

    private static void inside(Class<?> type, Set<String> publicNames) {
        check(type.getDeclaredClasses().length < 12, "more than twelve classes");
        for (Method method : type.getDeclaredMethods()) {
            boolean hidden = Modifier.isPrivate(method.getModifiers());
            check(!hidden || !publicNames.contains(method.getName()), method + " bears a public name");
        }
        for (Class<?> nested : type.getDeclaredClasses()) {
            check(Modifier.isStatic(nested.getModifiers()), nested + " is not static");
            check(!Modifier.isPublic(nested.getModifiers()), nested + " is public");
            for (Method method : nested.getDeclaredMethods()) {
                check(!publicNames.contains(method.getName()), method + " bears a public name");
                check(method.getParameterCount() <= 7, method + " has more than seven parameters");
            }
            fields(nested);
        }
        fields(type);
    }

    private static void fields(Class<?> type) {
        int count = 0;
        for (Field field : type.getDeclaredFields()) {
            if (Modifier.isStatic(field.getModifiers())) {
                check(Modifier.isFinal(field.getModifiers()), field + " is static and not final");
            } else {
                count++;
            }
        }
        check(count <= 20, type + " has " + count + " fields");
    }

    private static void text() throws IOException {
        String source = Files.readString(Path.of(SOURCE), StandardCharsets.US_ASCII);
        String code = source.replaceAll("(?s)/\\*.*?\\*/", "").replaceAll("//[^\n]*", "");
        for (String refused : REFUSED) {
            Matcher matcher = Pattern.compile(refused).matcher(code);
            if (matcher.find()) {
                check(false, "the source has " + matcher.group());
            }
        }
        int start = 0;
        String[] lines = source.split("\n");
        for (int i = 0; i < lines.length; i++) {
            check(lines[i].length() <= 120, "line " + (i + 1) + " is longer than 120 characters");
            if (lines[i].matches("( {4}| {8})(private|public|static|boolean|int|void|Term|[A-Z]).*\\) \\{")) {
                start = i;
            }
            if (lines[i].matches("( {4}| {8})\\}")) {
                check(lines[start].contains(" class ") || i - start < 60, "the method of line " + (start + 1) + " is long");
            }
        }
    }

    public static void main(String[] args) throws IllegalAccessException, IOException {
        face();
        text();
        System.out.println(wrong == 0 ? "the face and the rules are kept" : wrong + " faults");
        if (wrong != 0) {
            System.exit(1);
        }
    }
}
