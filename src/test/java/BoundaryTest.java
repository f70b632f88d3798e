import java.io.IOException;
import java.lang.reflect.Method;
import java.nio.charset.StandardCharsets;
import java.nio.file.Files;
import java.nio.file.Path;
import java.util.ArrayList;
import java.util.Arrays;
import java.util.HashMap;
import java.util.LinkedHashMap;
import java.util.LinkedHashSet;
import java.util.List;
import java.util.Map;
import java.util.Set;
import java.util.function.Function;
import java.util.regex.Matcher;
import java.util.regex.Pattern;

/**
 * A test of its own for each sentence of the document that names a boundary: the last input that is accepted, the
 * first that is refused, the error code, which of several errors is returned, and the state afterwards. The other
 * sentences of the description, which say what its words mean, have a test each too.
 *
 * <p>A test quotes its sentence, which must stand in DOC.md, and each sentence of the description and of the promises
 * must have a test. It is a run of steps on a new object:
 *
 * <ul>
 *   <li>{@code name(1, 2) = 3}: a call and the answer that is due; {@code {1,2}} stands for each of
 *       its numbers in turn;
 *   <li>{@code !name(1) = -1}: the same, and the state is what it would be without the call;
 *   <li>{@code ~name(1) = -1}: the same, and the state is what it would be with clearText() instead of the call;
 *   <li>{@code ?name(1) = -1}: a refused call behind which no calls are left to look at the state;
 *   <li>{@code type T}, {@code rule T = 0}, {@code term 1 T = 2}: a text, and addRule() or parseTerm(1) of it;
 *   <li>{@code shows 1 T}: the term in register 1, as text.
 * </ul>
 */
public final class BoundaryTest {
    private static final Path DOCUMENT = Path.of("../shared/DOC.md");
    private static final int DESCRIPTION = 0;
    private static final int LAST_PROMISE = 50;
    private static final int MOST_CALLS = 512;
    private static final Map<String, Integer> NAMES = new HashMap<>();

    static {
        NAMES.put("NO_SUCH_ELEMENT", -1);
        NAMES.put("OUT_OF_RANGE", -2);
        NAMES.put("NOT_POSSIBLE", -3);
        NAMES.put("FULL", -4);
        NAMES.put("NOT_FOUND", -5);
        NAMES.put("INVALID", -6);
        NAMES.put("TOO_LARGE", -8);
        NAMES.put("LOW", Integer.MIN_VALUE);
        NAMES.put("HIGH", Integer.MAX_VALUE);
    }

    private static final Pattern CALL = Pattern.compile("([!~?]?)(\\w+)\\((.*)\\) = (-?\\w+)");
    private static final Pattern TEXT = Pattern.compile("([!~]?)(rule|term (-?\\d+)) (\\S*) = (-?\\w+)");
    private static final Pattern SHOWN = Pattern.compile("shows (\\d) (\\S+)");
    private static final Pattern ARGUMENT = Pattern.compile("\\{([^}]*)\\}|([^,{}\\s]+)");

    private static final Map<String, Method> METHODS = new HashMap<>();
    private static final Set<String> TESTED = new LinkedHashSet<>();
    private static int wrong = 0;
    private static int tests = 0;
    private static int states = 0;
    private static int mostCalls = 0;
    private static String where = "";

    private static void fault(String what) {
        wrong++;
        System.out.println(where + ": " + what);
    }

    // ---- Steps and calls ----

    /** One call; due is null where a step does not tell the answer. */
    private record Call(char kind, String name, int[] arguments, Integer due) {
        @Override
        public String toString() {
            String list = Arrays.toString(arguments);
            return name + "(" + list.substring(1, list.length() - 1) + ")";
        }
    }

    private static int number(String word) {
        Integer named = NAMES.get(word);
        return named != null ? named : Integer.parseInt(word);
    }

    private static List<Call> calls(String... steps) {
        List<Call> calls = new ArrayList<>();
        for (String step : steps) {
            Matcher text = TEXT.matcher(step);
            Matcher shown = SHOWN.matcher(step);
            Matcher call = CALL.matcher(step);
            if (step.startsWith("type ")) {
                addTyping(calls, step.substring(5));
            } else if (text.matches()) {
                addTyping(calls, text.group(4));
                String taken = text.group(3) == null ? "addRule()" : "parseTerm(" + text.group(3) + ")";
                calls.addAll(calls(text.group(1) + taken + " = " + text.group(5)));
            } else if (shown.matches()) {
                addShown(calls, Integer.parseInt(shown.group(1)), shown.group(2));
            } else if (call.matches()) {
                addProduct(calls, call);
            } else {
                throw new IllegalArgumentException("no step: " + step);
            }
        }
        return calls;
    }

    private static void addTyping(List<Call> calls, String text) {
        for (char character : text.toCharArray()) {
            calls.add(new Call(' ', "appendCharacter", new int[] {character}, null));
        }
    }

    private static void addShown(List<Call> calls, int register, String text) {
        calls.add(new Call(' ', "formattedLength", new int[] {register}, text.length()));
        for (int i = 0; i < text.length(); i++) {
            calls.add(new Call(' ', "formattedCharacter", new int[] {register, i}, (int) text.charAt(i)));
        }
    }

    /** A call for each choice of one number out of each pair of braces. */
    private static void addProduct(List<Call> calls, Matcher step) {
        List<int[]> rows = new ArrayList<>(List.of(new int[0]));
        Matcher argument = ARGUMENT.matcher(step.group(3));
        while (argument.find()) {
            String words = argument.group(1) != null ? argument.group(1) : argument.group(2);
            List<int[]> longer = new ArrayList<>();
            for (int[] row : rows) {
                for (String word : words.split(",\\s*")) {
                    int[] next = Arrays.copyOf(row, row.length + 1);
                    next[row.length] = number(word);
                    longer.add(next);
                }
            }
            rows = longer;
        }
        char kind = step.group(1).isEmpty() ? ' ' : step.group(1).charAt(0);
        int due = number(step.group(4));
        if (due < 0 && kind == ' ') {
            throw new IllegalArgumentException("a refused call needs a mark: " + step.group());
        }
        for (int[] row : rows) {
            calls.add(new Call(kind, step.group(2), row, due));
        }
    }

    /** An object that is used for no more calls than the document allows. */
    private static final class Subject {
        private final DependencyPairAnalyzer analyzer = new DependencyPairAnalyzer();
        private int used = 0;

        int ask(String name, int... arguments) {
            used++;
            mostCalls = Math.max(mostCalls, used);
            if (used > MOST_CALLS) {
                throw new IllegalStateException("more than " + MOST_CALLS + " calls on one object");
            }
            Object[] boxed = new Object[arguments.length];
            for (int i = 0; i < arguments.length; i++) {
                boxed[i] = arguments[i];
            }
            try {
                return (int) METHODS.get(name).invoke(analyzer, boxed);
            } catch (ReflectiveOperationException failure) {
                throw new IllegalStateException(name + Arrays.toString(arguments), failure);
            }
        }

        int ask(Call call) {
            return ask(call.name(), call.arguments());
        }
    }

    // ---- The state as the public methods show it ----

    private static final String[] COUNTS = {
        "ruleCount", "textLength", "pairCount", "edgeCount", "componentCount", "closureSize", "idempotentCount",
        "terminatesBySizeChange", "eliminationRounds", "remainingPairCount", "remainingComponentCount",
        "terminatesBySubtermCriterion", "normalFormRegisterCount"
    };
    private static final int RULE_VIEWS = 6;
    // Behind a text that stops in the middle of a term or a rule, these go on in ways that tell the texts apart.
    private static final String[] ENDS = {"", "z", ")", "z)", ",z)", ">z"};
    private static final List<Function<Subject, List<Integer>>> VIEWS = views();

    private static List<Integer> registerView(Subject subject, int register) {
        List<Integer> seen = new ArrayList<>();
        int length = subject.ask("formattedLength", register);
        seen.add(length);
        seen.add(subject.ask("termSize", register));
        for (int i = 0; i < length; i++) {
            seen.add(subject.ask("formattedCharacter", register, i));
        }
        return seen;
    }

    private static List<Integer> countView(Subject subject) {
        List<Integer> seen = new ArrayList<>();
        for (String name : COUNTS) {
            seen.add(subject.ask(name));
        }
        for (int function = 0; function < 3; function++) {
            seen.add(subject.ask("arity", function));
        }
        return seen;
    }

    private static List<Integer> ruleView(Subject subject, int rule) {
        List<Integer> seen = new ArrayList<>();
        seen.add(subject.ask("loadLeft", rule, 0));
        if (seen.get(0) >= 0) {
            seen.addAll(registerView(subject, 0));
            seen.add(subject.ask("loadRight", rule, 0));
            seen.addAll(registerView(subject, 0));
        }
        return seen;
    }

    private static List<Integer> textView(Subject subject, String end, boolean asRule) {
        List<Integer> seen = new ArrayList<>();
        for (char character : end.toCharArray()) {
            seen.add(subject.ask("appendCharacter", character));
        }
        int answer = asRule ? subject.ask("addRule") : subject.ask("parseTerm", 0);
        seen.add(answer);
        if (answer >= 0) {
            seen.addAll(asRule ? ruleView(subject, answer) : registerView(subject, 0));
        }
        return seen;
    }

    private static List<Function<Subject, List<Integer>>> systemViews() {
        List<Function<Subject, List<Integer>>> views = new ArrayList<>();
        views.add(BoundaryTest::countView);
        for (int r = 0; r < 4; r++) {
            int register = r;
            views.add(subject -> registerView(subject, register));
        }
        for (int r = 0; r < RULE_VIEWS; r++) {
            int rule = r;
            views.add(subject -> ruleView(subject, rule));
        }
        return views;
    }

    private static List<Function<Subject, List<Integer>>> views() {
        List<Function<Subject, List<Integer>>> views = new ArrayList<>(systemViews());
        for (Function<Subject, List<Integer>> view : systemViews()) {
            views.add(subject -> {
                List<Integer> seen = new ArrayList<>();
                seen.add(subject.ask("restoreSnapshot"));
                seen.addAll(view.apply(subject));
                return seen;
            });
        }
        for (String end : ENDS) {
            views.add(subject -> textView(subject, end, false));
            views.add(subject -> textView(subject, end, true));
        }
        return views;
    }

    /** Whether the call at an index leaves the state as it was, or as it was but for an empty text. */
    private static void checkState(List<Call> calls, int index) {
        Call call = calls.get(index);
        states++;
        for (int view = 0; view < VIEWS.size(); view++) {
            Subject one = new Subject();
            Subject other = new Subject();
            for (Call earlier : calls.subList(0, index)) {
                one.ask(earlier);
                other.ask(earlier);
            }
            one.ask(call);
            if (call.kind() == '~') {
                other.ask("clearText");
            }
            List<Integer> seen = VIEWS.get(view).apply(one);
            List<Integer> due = VIEWS.get(view).apply(other);
            if (!seen.equals(due)) {
                fault("behind " + call + " the state differs: view " + view + " is " + seen + ", due is " + due);
                return;
            }
        }
    }

    // ---- Tests and their sentences ----

    /** A test of one sentence of a promise, or of the description (promise 0). */
    private static void at(int promise, String sentence, String... steps) {
        where = (promise == DESCRIPTION ? "description" : "promise " + promise) + ", " + sentence;
        tests++;
        TESTED.add(promise + " " + sentence);
        List<Call> calls = calls(steps);
        Subject subject = new Subject();
        for (int i = 0; i < calls.size(); i++) {
            Call call = calls.get(i);
            int got = subject.ask(call);
            if (call.due() != null && got != call.due()) {
                fault(call + " answered " + got + ", due is " + call.due());
            }
            if (call.kind() == '!' || call.kind() == '~') {
                checkState(calls, i);
            }
        }
    }

    private static String[] join(String[] first, String... second) {
        String[] all = Arrays.copyOf(first, first.length + second.length);
        System.arraycopy(second, 0, all, first.length, second.length);
        return all;
    }

    /** The steps that add rules; arities are three digits, those of f, g and h. */
    private static String[] system(String arities, String... rules) {
        List<String> steps = new ArrayList<>();
        int[] first = {2, 2, 1};
        for (int function = 0; function < 3; function++) {
            if (arities.charAt(function) - '0' != first[function]) {
                steps.add("setArity(" + function + ", " + arities.charAt(function) + ") = " + first[function]);
            }
        }
        for (int i = 0; i < rules.length; i++) {
            steps.add("rule " + rules[i] + " = " + i);
        }
        return steps.toArray(new String[0]);
    }

    private static String nested(String open, int times, String inside) {
        return open.repeat(times) + inside + ")".repeat(times);
    }

    /** The sentences and clauses of each promise, as DOC.md has them. */
    private static Map<Integer, List<String>> sentences(String document) {
        Map<Integer, List<String>> sentences = new LinkedHashMap<>();
        Matcher section = Pattern.compile("(?s)\n## Promise (\\d+): [^\n]*\n(.*?)(?=\n## )").matcher(document);
        while (section.find()) {
            List<String> clauses = new ArrayList<>();
            for (String paragraph : section.group(2).trim().split("\n\n")) {
                if (!paragraph.startsWith("`") && !paragraph.startsWith("- ")) {
                    String line = paragraph.replaceAll("\\s+", " ").replaceAll("\\.$", "");
                    clauses.addAll(Arrays.asList(line.split("; |\\. ")));
                }
            }
            sentences.put(Integer.parseInt(section.group(1)), clauses);
        }
        return sentences;
    }

    // These say what the class is for, and that it need not bear several threads; no answer hangs on them.
    private static final Set<String> WITHOUT_TEST = Set.of(
            "The object holds a set of rewrite rules.",
            "It computes their dependency pairs and dependency graph, tests termination by the size-change principle "
                    + "and by the subterm criterion, and rewrites terms.",
            "The class is not thread-safe.");
    // The word or two words with which a paragraph begins.
    private static final Pattern LABEL = Pattern.compile("[A-Z][a-z]+( [a-z]+)?\\.");

    /** The sentences and clauses of the description that lack a test. */
    private static void checkDescription(String description) {
        int start = description.indexOf("## Description") + "## Description".length();
        String body = description.substring(start, description.indexOf("Examples: ")).trim();
        for (String clause : body.split("(?<=[.;:]) ")) {
            boolean excused = LABEL.matcher(clause).matches() || WITHOUT_TEST.contains(clause);
            if (!excused && !isQuoted(clause)) {
                fault("no test for " + clause);
            }
        }
    }

    private static boolean isQuoted(String clause) {
        for (String tested : TESTED) {
            String quote = tested.substring(tested.indexOf(' ') + 1);
            if (tested.startsWith(DESCRIPTION + " ") && (clause.contains(quote) || quote.contains(clause))) {
                return true;
            }
        }
        return false;
    }

    /**
     * Each sentence of a promise has a test, but for the first one, which only says what the method is for; those of
     * the promises 1 and 39 name a boundary too. Each test quotes a sentence that is there.
     */
    private static void checkSentences() throws IOException {
        where = "the sentences";
        if (!Files.exists(DOCUMENT)) {
            System.out.println("the sentences are not compared: there is no " + DOCUMENT);
            return;
        }
        String document = Files.readString(DOCUMENT, StandardCharsets.UTF_8);
        Map<Integer, List<String>> sentences = sentences(document);
        if (sentences.size() != LAST_PROMISE) {
            fault("DOC.md has " + sentences.size() + " promises");
        }
        sentences.forEach((promise, clauses) -> {
            for (int i = 0; i < clauses.size(); i++) {
                boolean needed = i > 0 || promise == 1 || promise == 39;
                if (needed && !TESTED.contains(promise + " " + clauses.get(i))) {
                    fault("no test for promise " + promise + ", " + clauses.get(i));
                }
            }
        });
        String description = document.substring(0, document.indexOf("## Promise 1:")).replaceAll("\\s+", " ");
        checkDescription(description);
        for (String tested : TESTED) {
            int promise = Integer.parseInt(tested.substring(0, tested.indexOf(' ')));
            String sentence = tested.substring(tested.indexOf(' ') + 1);
            boolean there = promise == DESCRIPTION
                    ? description.contains(sentence) : sentences.get(promise).contains(sentence);
            if (!there) {
                fault("DOC.md does not say in promise " + promise + ": " + sentence);
            }
        }
    }

    // ---- Systems that several tests use ----

    private static final String SIX = "{-1,6,LOW,HIGH}";
    private static final String[] PLUS_TIMES = system("221",
            "f(z,y)>y", "f(s(x),y)>s(f(x,y))", "g(z,y)>z", "g(s(x),y)>f(y,g(x,y))");
    private static final String[] SIX_RULES = system("221",
            "h(z)>z", "h(s(x))>h(x)", "f(z,y)>y", "f(s(x),y)>f(x,y)", "g(x,y)>f(x,y)", "g(x,x)>x");
    private static final String[] CLOSURE_OF_400 = system("321",
            "f(c(y,w),s(w),s(w))>f(s(w),c(y,w),w)", "f(w,s(w),c(x,y))>f(c(y,w),s(w),s(x))",
            "f(s(y),s(x),s(w))>f(s(y),w,x)", "f(w,w,y)>f(c(y,w),y,c(y,w))", "f(x,c(x,y),w)>f(w,x,y)",
            "f(c(y,w),x,x)>f(c(y,w),s(y),x)");
    private static final String[] CLOSURE_OF_401 = system("321",
            "f(w,s(y),x)>f(w,c(x,y),s(y))", "f(x,c(y,w),s(y))>f(c(y,w),s(y),x)",
            "f(c(x,y),c(x,y),s(x))>f(y,c(x,y),c(x,y))", "f(s(w),s(w),c(x,y))>f(c(y,w),x,c(x,y))",
            "f(w,s(w),s(y))>f(s(w),s(w),s(w))", "f(c(y,w),x,x)>f(w,c(x,y),x)");
    // The most pairs that six texts of 80 characters can hold.
    private static final String DEEPEST = "h(x)>" + nested("h(", 24, "x");
    private static final String[] MOST_PAIRS = system("221", DEEPEST, DEEPEST, DEEPEST, DEEPEST, DEEPEST, DEEPEST);
    // The last pair of each rule has the target h(z), which leads nowhere.
    private static final String DEAD_END = "h(s(x))>" + nested("h(", 23, "z");
    private static final String[] DEAD_ENDS =
            system("221", DEAD_END, DEAD_END, DEAD_END, DEAD_END, DEAD_END, DEAD_END);
    // A term of 80 characters and a rule of 80 characters.
    private static final String LONG_TERM = nested("s(", 23, "c(c(z,z),z)");
    private static final String LONG_RULE = "h(x)>" + nested("s(", 23, "c(x,x)");
    // 38 steps lead from h(z) to 40 symbols; the next one is impossible.
    private static final String[] GROWING = system("221", "h(x)>h(s(x))", "f(x,y)>s(f(x,y))", "g(x,y)>x");
    // Thirty terms to explore; the tenth that is expanded is the only normal form.
    private static final String[] THIRTY_TERMS =
            join(system("221", "h(s(x))>h(x)"),
            "term 0 c(h(" + nested("s(", 4, "z") + "),h(" + nested("s(", 5, "z") + ")) = 14");

    // ---- The description ----

    /** A step for each character that may be typed: what parseTerm or addRule says of it behind a beginning. */
    private static String[] eachCharacter(String beginning, String symbols, String taken, int refusal) {
        List<String> steps = new ArrayList<>();
        for (char character = 32; character <= 126; character++) {
            if (symbols.indexOf(character) < 0) {
                steps.add("type " + beginning + character);
                steps.add("~" + taken + " = " + refusal);
            }
        }
        return steps.toArray(new String[0]);
    }

    private static void symbols() {
        at(DESCRIPTION, "The variables are x, y and w; they have no arguments.",
                "term 0 x = 1", "term 1 y = 1", "term 2 w = 1", "~term 0 v = -100", "~term 0 x(z) = -101",
                "~term 0 y(z) = -101", "~term 0 w(z) = -101");
        at(DESCRIPTION, "The constructors are z without arguments, s with one argument and c with two arguments.",
                "term 0 z = 1", "term 1 s(z) = 2", "term 2 c(z,z) = 3", "~term 0 z(z) = -101", "~term 0 s = -101",
                "~term 0 s(z,z) = -103", "~term 0 c(z) = -103", "~term 0 c(z,z,z) = -105");
        at(DESCRIPTION, "The functions are f, g and h; they have the numbers 0, 1 and 2.",
                "rule f(x,y)>f(x,y) = 0", "rule g(x,y)>g(x,y) = 1", "rule h(x)>h(x) = 2", "!sourceFunction(0) = 0",
                "!targetFunction(1) = 1", "!sourceFunction(2) = 2", "~rule e(x)>x = -100", "~rule i(x)>x = -100");
        at(DESCRIPTION, "the position, from 0, of the first character that cannot continue any valid text",
                eachCharacter("", "xywzscfgh", "parseTerm(0)", -100));
        at(DESCRIPTION, "the position, from 0, of the first character that cannot continue any valid text",
                eachCharacter("s(", "xywzscfgh", "parseTerm(0)", -102));
        at(DESCRIPTION, "the position, from 0, of the first character that cannot continue any valid text",
                eachCharacter("h", "(", "parseTerm(0)", -101));
        at(DESCRIPTION, "the position, from 0, of the first character that cannot continue any valid text",
                eachCharacter("x", ">", "addRule()", -101));
    }

    private static void termsAndRules() {
        at(DESCRIPTION,
                "An object is used for at most 512 calls after it has been made; what later calls answer is free.",
                "term 3 f(z,s(z)) = 4",
                "termSize({0,1,2,3}) = 1".replace("{0,1,2,3}", "{0,1,2" + ",0".repeat(498) + "}"),
                "termSize(3) = 4");
        at(DESCRIPTION, "The arity of a function, the number of its arguments, is 1 to 3.",
                "setArity(0, 1) = 2", "setArity(1, 3) = 2", "term 0 f(g(x,y,w)) = 5",
                "~term 0 f(x,y) = -103", "~term 0 f() = -102", "~term 0 f = -101",
                "~term 0 g(x,y) = -105", "~term 0 g(x,y,w,z) = -107", "shows 0 f(g(x,y,w))");
        at(DESCRIPTION, "Initially f and g have arity 2 and h has arity 1.",
                "arity(0) = 2", "arity(1) = 2", "arity(2) = 1", "term 0 f(z,g(z,h(z))) = 6");
        at(DESCRIPTION, "The positions of a term are numbered from 0 in preorder: position 0 is the root",
                "rule h(s(x))>x = 0", "term 0 c(h(s(z)),h(s(h(s(z))))) = 9",
                "!matches(0, 0, 0) = 0", "!matches(0, 0, 1) = 1", "!matches(0, 0, 4) = 1", "!matches(0, 0, 6) = 1",
                "!matches(0, 0, 8) = 0", "!matches(0, 0, 9) = NO_SUCH_ELEMENT", "!matches(0, 0, -1) = NO_SUCH_ELEMENT");
        at(DESCRIPTION, "Terms are ordered by size; terms of equal size are compared lexicographically by their "
                + "symbols in preorder, and symbols are compared by character code.",
                "term 0 z = 1", "term 1 c(w,w) = 3", "!compareTerms(0, 1) = 0", "!compareTerms(1, 0) = 2",
                "term 0 c(w,x) = 3", "!compareTerms(0, 1) = 2", "!compareTerms(1, 0) = 0",
                "term 0 c(w,w) = 3", "!compareTerms(0, 1) = 1");
        at(DESCRIPTION, "There are at most 6 rules.", join(SIX_RULES,
                "ruleCount() = 6", "type h(x)>x", "!addRule() = FULL", "removeRule(5) = 5", "addRule() = 5"));
        at(DESCRIPTION, "when a rule is removed, the numbers of the later rules decrease by 1.", join(SIX_RULES,
                "removeRule(1) = 5", "leftSize(0) = 2", "rightSize(0) = 1", "leftSize(1) = 3", "rightSize(1) = 1",
                "leftSize(4) = 3", "rightSize(4) = 1", "!leftSize(5) = NO_SUCH_ELEMENT",
                "loadLeft(2, 0) = 4", "shows 0 f(s(x),y)", "loadLeft(0, 0) = 2", "shows 0 h(z)"));
        // With 80 characters 32 symbols are the most on a side, so that more than 40 cannot be typed.
        at(DESCRIPTION, "A rule consists of a left side and a right side, both terms of at most 40 symbols.",
                "setArity(0, 3) = 2", "rule f(" + nested("c(z,", 14, "z") + ",z,z)>z = 0", "leftSize(0) = 32",
                "rule h(x)>s(" + nested("f(z,z,", 10, "x") + ") = 1", "rightSize(1) = 32");
        at(DESCRIPTION, "The root of the left side is a function, and the left side contains no other function.",
                "rule h(s(c(x,z)))>z = 0", "~rule z>z = INVALID", "~rule x>x = INVALID", "~rule s(h(z))>z = INVALID",
                "~rule h(h(z))>z = INVALID", "~rule f(z,f(z,z))>z = INVALID", "~rule f(z,s(c(z,g(z,z))))>z = INVALID",
                "ruleCount() = 1");
        at(DESCRIPTION, "Every variable of the right side occurs in the left side.",
                "rule f(x,c(y,w))>c(w,c(y,x)) = 0", "rule f(x,y)>z = 1", "~rule f(x,y)>w = INVALID",
                "~rule f(x,y)>c(x,c(y,w)) = INVALID", "~rule f(z,z)>x = INVALID", "~rule f(w,w)>c(w,y) = INVALID");
        at(DESCRIPTION, "A variable may occur several times on either side.",
                "rule g(c(x,x),s(x))>c(c(x,x),c(x,x)) = 0", "leftSize(0) = 6", "rightSize(0) = 7");
    }

    private static void rewritingAndGraphs() {
        at(DESCRIPTION, "If the resulting term would have more than 40 symbols, the step is impossible.", join(GROWING,
                "term 0 h(z) = 2", "rewriteOutermost(0, 37) = 37", "rewriteAt(0, 0) = 40",
                "!rewriteAt(0, 0) = TOO_LARGE", "!rewriteOutermost(0, 1) = 0", "!redexCount(0) = 1"));
        at(DESCRIPTION, "of the matching rule with the lowest number", join(
                system("221", "f(x,x)>x", "f(x,y)>y", "f(z,y)>s(y)"),
                "term 0 f(z,s(z)) = 4", "!matches(0, 0, 0) = 0", "!matches({1,2}, 0, 0) = 1", "rewriteAt(0, 0) = 2",
                "shows 0 s(z)"));
        at(DESCRIPTION, "A term without a redex is a normal form.",
                "rule h(s(x))>x = 0", "term 0 h(z) = 2", "term 1 h(s(z)) = 3", "!redexCount(0) = 0",
                "!redexCount(1) = 1", "!normalFormRegisterCount() = 3");
        at(DESCRIPTION, "Variables inside the matched term are not replaced; they are treated like constants.",
                "rule f(z,x)>x = 0", "rule g(x,x)>x = 1", "term 0 f(x,z) = 3", "!matches(0, 0, 0) = 0",
                "term 1 g(x,y) = 3", "!matches(1, 1, 0) = 0", "term 1 g(y,y) = 3", "!matches(1, 1, 0) = 1");
        at(DESCRIPTION, "A pair is in a component by itself only if there is a path of at least one edge from it to "
                + "itself; a pair without such a path is in no component.",
                "rule h(s(x))>h(x) = 0", "rule h(z)>h(s(z)) = 1", "rule f(z,x)>f(s(x),z) = 2", "rule g(x,y)>f(x,y) = 3",
                "!hasEdge(2, 2) = 0", "!hasEdge(3, 2) = 1", "!componentOf({0,1}) = 0",
                "!componentOf({2,3}) = NOT_FOUND", "componentCount() = 1");
        at(DESCRIPTION, "If the closure has more than 400 graphs, the methods that use it return TOO_LARGE.",
                join(CLOSURE_OF_401, "!closureSize() = TOO_LARGE", "!idempotentCount() = TOO_LARGE",
                        "!terminatesBySizeChange() = TOO_LARGE", "!eliminationRounds() = 0", "removeRule(2) = 5",
                        "!closureSize() = 356", "!idempotentCount() = 132", "!terminatesBySizeChange() = 0"));
        at(DESCRIPTION, "The elimination ends when no component has a valid projection.",
                "rule f(s(x),y)>f(x,y) = 0", "rule g(s(x),y)>g(y,s(x)) = 1", "rule h(x)>h(x) = 2",
                "eliminationRounds() = 1", "remainingComponentCount() = 2", "remainingPairCount() = 2",
                "removeRule(0) = 2", "eliminationRounds() = 0", "remainingComponentCount() = 2");
        at(DESCRIPTION, "There are 4 registers, numbered from 0. Each contains a term, initially z.",
                "term 0 s(z) = 2", "term 3 s(s(z)) = 3", "termSize({1,2}) = 1", "!termSize(4) = NO_SUCH_ELEMENT",
                "!termSize(-1) = NO_SUCH_ELEMENT", "type z", "!parseTerm(4) = NO_SUCH_ELEMENT");
        at(DESCRIPTION, "It ends when the number of expanded terms is the limit or when every discovered term was "
                + "expanded.", join(THIRTY_TERMS, "!exploredCount(0, 29) = 29", "!exploredCount(0, 30) = 30",
                "rewriteAt(0, 7) = 13", "!exploredCount(0, 30) = 25", "!exploredCount(0, 25) = 25",
                "!exploredCount(0, 24) = 24"));
    }

    private static void choices() {
        at(DESCRIPTION, "The outermost redex is the redex with the lowest position.",
                "rule h(x)>x = 0", "rule f(x,y)>y = 1", "term 0 c(f(h(z),z),h(x)) = 7", "!redexAt(0, 0) = 1",
                "rewriteOutermost(0, 1) = 1", "shows 0 c(z,h(x))", "rewriteOutermost(0, 1) = 1", "shows 0 c(z,x)");
        at(DESCRIPTION, "Repeated variables play no role.",
                "rule g(x,y)>f(z,s(z)) = 0", "rule f(x,x)>g(x,x) = 1", "rule g(z,s(z))>h(z) = 2", "!hasEdge(0, 1) = 1",
                "!hasEdge(1, {0,2}) = 1", "!hasEdge(0, 2) = 0", "term 0 f(z,s(z)) = 4", "!matches(1, 0, 0) = 0");
        at(DESCRIPTION, "The components are numbered from 0 in the order of their lowest pair numbers.",
                "rule f(x,y)>g(x,y) = 0", "rule h(x)>h(x) = 1", "rule g(x,y)>f(x,y) = 2", "!componentOf({0,2}) = 0",
                "!componentOf(1) = 1", "removeRule(0) = 2", "!componentOf(0) = 0", "!componentOf(1) = NOT_FOUND");
        at(DESCRIPTION, "equal graphs count once.",
                "rule h(s(x))>h(x) = 0", "!closureSize() = 1", "rule h(c(x,y))>c(h(x),h(y)) = 1", "!pairCount() = 3",
                "!closureSize() = 1", "rule f(z,z)>h(z) = 2", "!closureSize() = 3", "rule f(x,y)>h(x) = 3",
                "!closureSize() = 5", "rule f(x,s(y))>h(x) = 4", "!closureSize() = 5");
        at(DESCRIPTION, "The projection of a component is the lowest valid one.",
                "setArity(0, 3) = 2", "rule f(s(x),s(y),s(w))>f(x,y,w) = 0", "!projection(0) = 111",
                "rule f(x,y,w)>f(s(z),y,w) = 1", "!projection(0) = 211", "rule f(x,y,w)>f(x,s(z),w) = 2",
                "!projection(0) = 311", "rule f(x,y,w)>f(x,y,s(z)) = 3", "!projection(0) = NOT_FOUND");
        at(DESCRIPTION, "It repeatedly expands the lowest discovered term that was not expanded before",
                "rule h(x)>c(x,x) = 0", "rule f(x,y)>s(g(x,y)) = 1", "rule g(x,y)>x = 2", "term 0 f(h(z),z) = 4",
                "!lastExploredSize(0, 1) = 4", "!lastExploredSize(0, {2,3}) = 5", "!lastExploredSize(0, 4) = 3",
                "!lastExploredSize(0, 5) = 4", "!lastExploredSize(0, {6,30}) = 6",
                "!exploredCount(0, 30) = 6");
        at(DESCRIPTION, "There are no spaces.", "type s( z)", "~parseTerm(0) = -102", "type h(x) >x",
                "~addRule() = -104", "type h(x)>x ", "~addRule() = -106", "type  ", "~parseTerm(0) = -100");
    }

    private static void textAndErrors() {
        at(DESCRIPTION, "The text buffer contains at most 80 characters.",
                "type " + LONG_TERM, "textLength() = 80", "!appendCharacter(41) = FULL", "parseTerm(0) = 28",
                "shows 0 " + LONG_TERM);
        at(DESCRIPTION, "if the text ends too early, it is the length of the text.",
                "~rule  = -100", "~term 0  = -100", "~term 0 c = -101", "~term 0 c( = -102", "~term 0 c(z = -103",
                "~term 0 c(z, = -104", "~term 0 c(z,z = -105", "~rule h(z) = -104", "~rule h(z)> = -105");
        at(DESCRIPTION, "The length limit of the buffer is not part of this syntax.",
                "~term 0 " + "s(".repeat(40) + " = -180", "~rule " + "h(".repeat(40) + " = -180",
                "~rule " + LONG_TERM + " = -180");
        at(DESCRIPTION, "The length limit of the buffer is not part of this syntax.",
                "~term 0 " + "s(".repeat(39) + "s) = -179", "~term 0 " + "s(".repeat(39) + "sz = -179",
                "~rule " + LONG_RULE.substring(0, 79) + "z = -179", "~rule " + LONG_RULE.substring(0, 79) + ", = -179");
        at(DESCRIPTION, "A method that returns an error code leaves the state unchanged, except that addRule and "
                + "parseTerm empty the text buffer, as described there.", join(SIX_RULES,
                "term 0 f(s(z),h(s(z))) = 6", "term 3 g(x,h(y)) = 4", "saveSnapshot() = 6", "copyTerm(3, 1) = 4",
                "removeRule(0) = 5", "type h(", "~addRule() = -102", "type h(", "~parseTerm(1) = -102",
                "type h(h(z))>z", "~addRule() = INVALID", "type h(", "!parseTerm(4) = NO_SUCH_ELEMENT",
                "!setArity(0, 3) = NOT_POSSIBLE", "!removeRule(5) = NO_SUCH_ELEMENT",
                "!copyTerm(4, 0) = NO_SUCH_ELEMENT",
                "!loadLeft(5, 0) = NO_SUCH_ELEMENT", "!loadRight(0, 4) = NO_SUCH_ELEMENT",
                "!rewriteAt(0, 1) = NOT_FOUND", "!rewriteOutermost(0, 101) = OUT_OF_RANGE",
                "!loadNormalForm(0, 31, 1) = OUT_OF_RANGE", "!appendCharacter(127) = OUT_OF_RANGE"));
        at(DESCRIPTION, "If several errors apply, the one that is listed first is returned.", join(SIX_RULES,
                "!setArity(3, 4) = NO_SUCH_ELEMENT", "!setArity(2, 4) = OUT_OF_RANGE", "!setArity(2, 3) = NOT_POSSIBLE",
                "type h(h(z))>x)", "!addRule() = FULL", "!parseTerm(4) = NO_SUCH_ELEMENT", "removeRule(5) = 5",
                "~addRule() = -109", "!rewriteOutermost(4, 101) = NO_SUCH_ELEMENT",
                "!findLoop(4, 0) = NO_SUCH_ELEMENT", "!loadNormalForm(0, 31, 4) = NO_SUCH_ELEMENT"));
    }

    // ---- The description: what its words mean ----

    private static void termsInWords() {
        at(DESCRIPTION, "A term is a symbol with arguments, which are terms.",
                "term 0 f(s(c(x,z)),h(g(y,w))) = 9", "shows 0 f(s(c(x,z)),h(g(y,w)))", "~term 0 (z) = -100",
                "~term 0 s((z)) = -102", "~term 0 s(k) = -102", "shows 0 f(s(c(x,z)),h(g(y,w)))");
        at(DESCRIPTION, "The size of a term is the number of its symbols.",
                "term 0 w = 1", "term 1 c(x,x) = 3", "term 2 f(h(z),g(s(z),w)) = 7", "!termSize(0) = 1",
                "!termSize(1) = 3", "!termSize(2) = 7", "rule f(s(x),y)>c(x,s(s(y))) = 0", "!leftSize(0) = 4",
                "!rightSize(0) = 5");
        at(DESCRIPTION,
                "then the positions of the first argument follow, then those of the second argument, and so on.",
                "setArity(0, 3) = 2", "rule h(x)>x = 0", "term 0 f(h(x),c(h(y),h(w)),h(z)) = 10", "!redexAt(0, 0) = 1",
                "!redexAt(0, 1) = 4", "!redexAt(0, 2) = 6", "!redexAt(0, 3) = 8", "!redexAt(0, 4) = NOT_FOUND",
                "rewriteAt(0, 6) = 9", "shows 0 f(h(x),c(h(y),w),h(z))", "rewriteAt(0, 7) = 8",
                "shows 0 f(h(x),c(h(y),w),z)");
        at(DESCRIPTION, "The subterm at a position is the term whose root is there.",
                "rule h(c(x,x))>x = 0", "term 0 s(h(c(s(z),s(z)))) = 7", "!matches(0, 0, 1) = 1",
                "!matches(0, 0, {0,2,3,4,5,6}) = 0", "rewriteAt(0, 1) = 3", "shows 0 s(s(z))",
                "term 0 c(h(c(z,z)),s(z)) = 7", "rewriteAt(0, 1) = 4", "shows 0 c(z,s(z))");
        at(DESCRIPTION, "They are numbered from 0 in the order in which they were added;",
                "rule h(z)>z = 0", "rule f(x,y)>s(x) = 1", "rule g(x,x)>c(x,x) = 2", "loadLeft(0, 0) = 2",
                "shows 0 h(z)", "loadLeft(1, 1) = 3", "shows 1 f(x,y)", "loadRight(2, 2) = 3", "shows 2 c(x,x)",
                "removeRule(0) = 2", "rule h(z)>s(z) = 2", "loadRight(2, 3) = 2", "shows 3 s(z)", "loadRight(0, 3) = 2",
                "shows 3 s(x)");
    }

    private static void rewritingInWords() {
        at(DESCRIPTION, "A rule matches a term if some substitution of terms for the variables of the rule turns the "
                + "left side into that term.",
                "rule f(x,s(y))>x = 0", "rule f(x,x)>x = 1", "term 0 f(h(z),s(c(z,w))) = 7", "!matches(0, 0, 0) = 1",
                "!matches(1, 0, 0) = 0", "term 1 f(h(z),h(z)) = 5", "!matches(0, 1, 0) = 0", "!matches(1, 1, 0) = 1",
                "term 2 g(z,s(z)) = 4", "!matches({0,1}, 2, 0) = 0", "term 3 f(y,s(x)) = 4", "!matches(0, 3, 0) = 1",
                "rewriteAt(3, 0) = 1", "shows 3 y");
        at(DESCRIPTION, "A position of a term is a redex if some rule matches the subterm there.",
                "rule h(z)>z = 0", "rule g(x,x)>x = 1", "term 0 g(h(z),h(s(z))) = 6", "!redexCount(0) = 1",
                "!redexAt(0, 0) = 1", "rule h(s(x))>x = 2", "!redexCount(0) = 2", "!redexAt(0, 1) = 3",
                "term 0 g(h(z),h(z)) = 5", "!redexCount(0) = 3", "!redexAt(0, 0) = 0");
        at(DESCRIPTION, "A rewrite step at a redex replaces the subterm by the right side, with the same substitution, "
                + "of the matching rule with the lowest number.",
                "rule f(c(x,y),w)>c(w,c(y,y)) = 0", "term 0 s(f(c(z,h(x)),s(y))) = 8", "rewriteAt(0, 1) = 9",
                "shows 0 s(c(s(y),c(h(x),h(x))))");
        at(DESCRIPTION, "An exploration starts from a register and has a limit.",
                "rule h(s(x))>h(x) = 0", "term 0 h(s(s(z))) = 4", "!exploredCount(0, 1) = 1",
                "!exploredCount(0, 2) = 2", "!exploredCount(0, {3,4,30}) = 3", "!exploredCount({1,2,3}, 30) = 1");
        at(DESCRIPTION, "It maintains a set of discovered terms, at first only the term of the register.",
                "rule f(x,y)>z = 0", "term 0 c(f(x,x),f(x,x)) = 7", "!exploredCount(0, 30) = 4",
                "!lastExploredSize(0, 1) = 7", "!lastExploredSize(0, 2) = 5", "!lastExploredSize(0, 3) = 3",
                "!lastExploredSize(0, 4) = 5", "!exploredNormalForms(0, 30) = 1");
        at(DESCRIPTION, "every result of a possible rewrite step at any redex of this term is discovered.",
                "rule h(x)>c(x,x) = 0", "term 0 h(h(z)) = 3", "!exploredCount(0, 30) = 6",
                "!lastExploredSize(0, 2) = 4", "!lastExploredSize(0, 3) = 5", "!lastExploredSize(0, {4,5}) = 6",
                "!lastExploredSize(0, 6) = 7",
                "loadNormalForm(0, 30, 1) = 7", "shows 1 c(c(z,z),c(z,z))");
    }

    private static void pairsInWords() {
        at(DESCRIPTION, "For each rule and each position of its right side where a function occurs, there is one "
                + "dependency pair.",
                "rule f(x,y)>c(x,s(y)) = 0", "!pairCount() = 0", "rule g(x,y)>f(g(x,h(y)),s(h(x))) = 1",
                "!pairCount() = 4", "rule h(x)>h(h(x)) = 2", "!pairCount() = 6", "rule h(x)>h(h(x)) = 3",
                "!pairCount() = 8");
        at(DESCRIPTION, "The pairs are numbered from 0, ordered by rule number and then by position.",
                "rule f(x,y)>c(x,s(y)) = 0", "rule g(x,y)>f(g(x,h(y)),s(h(x))) = 1", "rule h(x)>s(h(h(x))) = 2",
                "!pairRule({0,1,2,3}) = 1", "!pairRule({4,5}) = 2", "!pairPosition(0) = 0", "!pairPosition(1) = 1",
                "!pairPosition(2) = 3", "!pairPosition(3) = 6", "!pairPosition(4) = 1", "!pairPosition(5) = 2",
                "removeRule(0) = 2", "!pairRule({0,3}) = 0", "!pairRule({4,5}) = 1");
        at(DESCRIPTION, "The source of a pair is the left side of the rule.",
                "rule f(s(x),y)>h(x) = 0", "rule h(c(x,y))>f(x,h(y)) = 1", "!sourceFunction(0) = 0",
                "!sourceFunction({1,2}) = 2", "!sizeRelation(0, 0, 0) = 2", "!sizeRelation(0, 1, 0) = 0",
                "!sizeRelation(2, 0, 0) = 2");
        at(DESCRIPTION, "The target of a pair is the subterm of the right side at the position.",
                "rule f(x,y)>s(g(h(x),y)) = 0", "!targetFunction(0) = 1", "!targetFunction(1) = 2",
                "!sizeRelation(0, 1, 1) = 1", "!sizeRelation(0, 0, 0) = 0", "!sizeRelation(1, 0, 0) = 1",
                "!sizeRelation(1, 1, 0) = 0");
        at(DESCRIPTION, "There is an edge from pair i to pair j if the target of i and the source of j have the same "
                + "root and each argument of that target is compatible with the corresponding argument of that source.",
                "rule f(x,y)>g(s(x),z) = 0", "rule g(s(x),z)>f(x,x) = 1", "rule g(z,z)>f(z,z) = 2",
                "rule g(s(x),s(y))>f(z,z) = 3", "!hasEdge(0, 1) = 1", "!hasEdge(0, {0,2,3}) = 0",
                "!hasEdge({1,2,3}, 0) = 1", "!hasEdge({1,2,3}, {1,2,3}) = 0", "!edgeCount() = 4");
        at(DESCRIPTION, "A term t is compatible with a term u if t or u is a variable or the root of t is a function;",
                "rule f(x,y)>f(h(x),y) = 0", "rule f(s(z),c(z,z))>h(z) = 1", "rule g(x,z)>f(z,z) = 2",
                "!hasEdge(0, {0,1,2}) = 1", "!hasEdge(3, {0,1}) = 1", "!hasEdge(3, 2) = 0", "!hasEdge({1,2}, 0) = 0");
        at(DESCRIPTION, "otherwise t is compatible with u if both have the same root and each argument of t is "
                + "compatible with the corresponding argument of u.",
                "rule f(x,y)>g(c(s(x),z),s(h(x))) = 0", "rule g(c(s(z),z),s(s(z)))>h(z) = 1",
                "rule g(c(z,z),x)>h(x) = 2", "rule g(c(x,s(y)),w)>h(w) = 3", "rule g(c(s(s(z)),w),s(z))>h(z) = 4",
                "rule g(s(x),w)>h(w) = 5", "!hasEdge(0, {2,5}) = 1", "!hasEdge(0, {0,1,3,4,6}) = 0",
                "!edgeCount() = 2");
        at(DESCRIPTION, "Two pairs are in the same component if there are paths of at least one edge from each of them "
                + "to the other one.",
                "rule f(x,y)>g(x,y) = 0", "rule g(x,y)>h(x) = 1", "rule h(x)>f(x,x) = 2", "!hasEdge(0, 2) = 0",
                "!componentOf({0,1,2}) = 0", "!componentCount() = 1", "removeRule(1) = 2", "!hasEdge(1, 0) = 1",
                "!componentOf({0,1}) = NOT_FOUND", "!componentCount() = 0");
    }

    private static void sizeChangeInWords() {
        at(DESCRIPTION, "Arguments are numbered from 0.",
                "setArity(0, 3) = 2", "rule f(x,y,s(w))>f(s(w),x,y) = 0", "!sizeRelation(0, 2, 0) = 1",
                "!sizeRelation(0, 0, 1) = 1", "!sizeRelation(0, 1, 2) = 1", "!sizeRelation(0, {0,1}, 0) = 0",
                "!sizeRelation(0, {1,2}, 1) = 0", "!sizeRelation(0, {0,2}, 2) = 0");
        at(DESCRIPTION, "The relation between argument a of the source and argument b of the target of a pair is 2 if "
                + "the argument of the target is a subterm of the argument of the source but not equal to it, 1 if "
                + "both are equal, and 0 otherwise.",
                "rule f(c(x,s(y)),y)>f(s(y),c(x,s(y))) = 0", "!sizeRelation(0, 0, 0) = 2", "!sizeRelation(0, 0, 1) = 1",
                "!sizeRelation(0, 1, {0,1}) = 0", "rule f(c(z,z),w)>f(z,h(w)) = 1", "!sizeRelation(1, 0, 0) = 2",
                "!sizeRelation(1, 0, 1) = 0", "!sizeRelation(1, 1, {0,1}) = 0", "!sizeRelation(2, 0, 0) = 0",
                "!sizeRelation(2, 1, 0) = 1");
        at(DESCRIPTION, "The size-change graph of a pair consists of the root of the source, the root of the target, "
                + "and the relations between all their arguments.",
                "rule f(x,y)>h(x) = 0", "!closureSize() = 1", "rule g(x,y)>h(x) = 1", "!closureSize() = 2",
                "rule f(x,y)>h(y) = 2", "!closureSize() = 3", "rule f(s(x),y)>h(x) = 3", "!closureSize() = 4",
                "rule f(x,z)>h(x) = 4", "!closureSize() = 4");
        at(DESCRIPTION, "A graph from function F to function G can be composed with a graph from G to H.",
                "rule f(s(x),y)>g(x,y) = 0", "!closureSize() = 1", "rule g(x,y)>h(x) = 1", "!closureSize() = 3",
                "!idempotentCount() = 0");
        // In the next tests the last rule brings the graph that the composition of the others is.
        at(DESCRIPTION, "The composition is a graph from F to H.",
                "rule f(x,y)>g(x,y) = 0", "rule g(x,y)>h(x) = 1", "!closureSize() = 3", "rule f(x,y)>h(x) = 2",
                "!closureSize() = 3");
        at(DESCRIPTION, "Its relation between a and b is the maximum, over all arguments d of G, of the following "
                + "number:",
                "rule f(s(x),y)>g(x,s(x)) = 0", "rule g(x,x)>h(x) = 1", "!closureSize() = 3", "rule f(s(x),y)>h(x) = 2",
                "!closureSize() = 3");
        String number = "0 if the relation between a and d or the relation between d and b is 0, otherwise 2 if one of "
                + "them is 2, otherwise 1.";
        at(DESCRIPTION, number, "rule f(x,y)>g(x,z) = 0", "rule g(x,y)>h(y) = 1", "!closureSize() = 3",
                "rule f(x,y)>h(z) = 2", "!closureSize() = 3");
        at(DESCRIPTION, number, "rule f(x,y)>g(x,y) = 0", "rule g(s(x),y)>h(x) = 1", "!closureSize() = 3",
                "rule f(s(x),y)>h(x) = 2", "!closureSize() = 3");
        at(DESCRIPTION, number, "rule f(x,y)>g(y,x) = 0", "rule g(x,y)>h(x) = 1", "!closureSize() = 3",
                "rule f(x,y)>h(y) = 2", "!closureSize() = 3");
        at(DESCRIPTION, "The closure contains the graphs of all pairs and all compositions of graphs of the closure;",
                "rule f(x,y)>g(x,y) = 0", "rule g(x,y)>f(y,x) = 1", "!closureSize() = 8", "!idempotentCount() = 2",
                "!terminatesBySizeChange() = 0");
        // A pair that leads to no pair, not even to itself, still has its graph in the closure.
        at(DESCRIPTION, "The closure contains the graphs of all pairs and all compositions of graphs of the closure;",
                "rule h(z)>h(s(z)) = 0", "!edgeCount() = 0", "!closureSize() = 1", "!idempotentCount() = 1",
                "!terminatesBySizeChange() = 0", "!terminatesBySubtermCriterion() = 1");
        at(DESCRIPTION, "A graph is idempotent if it leads from a function to the same function and its composition "
                + "with itself is equal to it.",
                "rule f(s(x),y)>f(y,x) = 0", "!closureSize() = 3", "!idempotentCount() = 1", "removeRule(0) = 0",
                "rule f(x,y)>f(y,x) = 0", "!closureSize() = 2", "!idempotentCount() = 1", "removeRule(0) = 0",
                "rule f(x,y)>g(x,y) = 0", "!closureSize() = 1", "!idempotentCount() = 0");
        at(DESCRIPTION, "The size-change test succeeds if every idempotent graph of the closure has an argument a with "
                + "relation 2 between a and a.",
                "rule f(s(x),y)>f(y,x) = 0", "!terminatesBySizeChange() = 1", "rule g(x,s(y))>g(s(x),y) = 1",
                "!terminatesBySizeChange() = 1", "rule f(x,y)>f(x,x) = 2", "!terminatesBySizeChange() = 0",
                "removeRule(2) = 2", "!terminatesBySizeChange() = 1");
    }

    private static void subtermCriterionInWords() {
        at(DESCRIPTION, "A projection chooses one argument for each function.",
                "setArity(0, 3) = 2", "rule f(x,y,s(w))>g(z,w) = 0", "rule g(x,s(y))>h(y) = 1",
                "rule h(s(x))>f(z,z,x) = 2", "!componentCount() = 1", "!projection(0) = 321");
        at(DESCRIPTION, "It is written as a number of three digits: the chosen arguments of f, g and h, where 1 is the "
                + "first argument.",
                "setArity(2, 3) = 1", "rule f(x,s(y))>f(s(x),y) = 0", "rule g(x,s(y))>g(s(x),y) = 1",
                "rule h(x,y,s(w))>h(s(x),s(y),w) = 2", "!projection(0) = 211", "!projection(1) = 121",
                "!projection(2) = 113");
        String first = "A projection is valid for a component if two conditions hold. First, for each pair of the "
                + "component, the relation between the chosen argument of the source and the chosen argument of the "
                + "target is 1 or 2, and it is 2 for at least one pair.";
        at(DESCRIPTION, first, "rule f(s(x),y)>f(x,s(y)) = 0", "!projection(0) = 111", "rule f(x,s(y))>f(x,y) = 1",
                "!componentOf({0,1}) = 0", "!projection(0) = 111", "removeRule(0) = 1", "!projection(0) = 211",
                "rule f(x,y)>f(x,h(y)) = 1", "!componentOf({0,1}) = 0", "!projection(0) = NOT_FOUND");
        at(DESCRIPTION, "Second, the digit of each function that is the root of no source and no target in the "
                + "component is 1.",
                "setArity(0, 3) = 2", "setArity(2, 2) = 1", "rule h(x,s(y))>h(f(x,x,x),y) = 0",
                "rule f(x,y,w)>g(x,y) = 1", "rule g(x,s(y))>g(s(x),y) = 2", "!componentOf(0) = 0",
                "!componentOf({1,2}) = NOT_FOUND", "!componentOf(3) = 1", "!projection(0) = 112",
                "!projection(1) = 121");
        at(DESCRIPTION, "The elimination starts with all pairs and works in rounds.",
                "rule f(s(x),z)>f(x,s(z)) = 0", "rule f(s(x),s(y))>f(x,f(s(x),y)) = 1", "!componentCount() = 1",
                "!eliminationRounds() = 2", "!remainingPairCount() = 0", "!terminatesBySubtermCriterion() = 1");
        at(DESCRIPTION, "A round determines the components of the dependency graph restricted to the remaining pairs.",
                "rule f(x,y)>f(x,y) = 0", "rule g(x,s(y))>g(x,y) = 1", "rule f(s(x),y)>g(x,y) = 2",
                "rule g(x,y)>f(x,y) = 3", "!componentCount() = 1", "!projection(0) = 111", "!eliminationRounds() = 2",
                "!remainingComponentCount() = 1", "!remainingPairCount() = 1", "!terminatesBySubtermCriterion() = 0");
        at(DESCRIPTION, "From each component that has a valid projection, it removes the pairs for which the relation "
                + "under the projection of the component is 2.",
                "rule f(s(x),y)>f(x,y) = 0", "rule f(x,y)>f(x,y) = 1", "rule g(x,y)>g(y,x) = 2",
                "rule h(s(x))>h(x) = 3", "!componentCount() = 3", "!eliminationRounds() = 1",
                "!remainingPairCount() = 2", "!remainingComponentCount() = 2");
        at(DESCRIPTION, "The test by the subterm criterion succeeds if no component remains at the end.",
                "rule h(s(x))>h(x) = 0", "!remainingComponentCount() = 0", "!terminatesBySubtermCriterion() = 1",
                "rule h(z)>h(s(z)) = 1", "!remainingComponentCount() = 1", "!terminatesBySubtermCriterion() = 0");
    }

    private static void textInWords() {
        at(DESCRIPTION, "A symbol without arguments is written as its letter.",
                "shows 0 z", "term 0 x = 1", "shows 0 x", "term 0 y = 1", "shows 0 y", "term 0 w = 1", "shows 0 w",
                "~term 0 z() = -101");
        at(DESCRIPTION, "A symbol with arguments is written as its letter followed by its arguments in parentheses, "
                + "separated by commas.",
                "setArity(0, 3) = 2", "term 0 f(x,c(y,s(w)),h(g(z,z))) = 10", "shows 0 f(x,c(y,s(w)),h(g(z,z)))",
                "~term 0 sz = -101", "~term 0 c(x;y) = -103", "~term 0 c(xy) = -103", "~term 0 c[x,y] = -101",
                "shows 0 f(x,c(y,s(w)),h(g(z,z)))");
        at(DESCRIPTION, "A rule is written as the left side, the character >, and the right side.",
                "rule f(x,y)>c(y,x) = 0", "loadLeft(0, 0) = 3", "shows 0 f(x,y)", "loadRight(0, 1) = 3",
                "shows 1 c(y,x)", "~rule f(x,y) = -106", "~rule >f(x,y) = -100", "~rule f(x,y)<x = -106",
                "~rule f(x,y)>x>x = -108", "ruleCount() = 1");
    }

    // ---- Promises 1 to 8: arities and rules ----

    private static void newObjectAndArities() {
        at(1, "Creates an analyzer without rules", "!ruleCount() = 0", "!textLength() = 0",
                "!removeRule(0) = NO_SUCH_ELEMENT", "!leftSize(0) = NO_SUCH_ELEMENT", "!pairCount() = 0",
                "!pairRule(0) = NO_SUCH_ELEMENT", "!edgeCount() = 0", "!componentCount() = 0", "!closureSize() = 0",
                "!restoreSnapshot() = NOT_POSSIBLE");
        at(1, "all registers contain the term z", "shows 0 z", "shows 1 z", "shows 2 z", "shows 3 z",
                "!termSize({0,1,2,3}) = 1", "!termSize(4) = NO_SUCH_ELEMENT", "!normalFormRegisterCount() = 4");
        at(2, "Each register whose term contains the function gets the term z",
                "term 0 f(z,z) = 3", "term 1 g(x,s(f(x,y))) = 6", "term 2 g(z,h(z)) = 4", "term 3 s(f(w,w)) = 4",
                "setArity(0, 3) = 2", "shows 0 z", "shows 1 z", "shows 2 g(z,h(z))", "shows 3 z",
                "setArity(2, 1) = 1", "shows 2 z");
        at(2, "Each register whose term contains the function gets the term z",
                "rule h(x)>s(h(x)) = 0", "term 3 h(z) = 2", "rewriteOutermost(3, 100) = 38", "removeRule(0) = 0",
                "termSize(3) = 40", "setArity(0, 1) = 2", "setArity(1, 1) = 2", "termSize(3) = 40",
                "setArity(2, 3) = 1", "shows 3 z");
        at(2, "Returns the previous arity", "setArity(0, 3) = 2", "setArity(0, 1) = 3", "setArity(0, 1) = 1",
                "setArity(0, 2) = 1", "setArity(1, 1) = 2", "setArity(1, 3) = 1", "setArity(2, 3) = 1",
                "setArity(2, 1) = 3", "arity(0) = 2", "arity(1) = 3", "arity(2) = 1");
        at(2, "NO_SUCH_ELEMENT if function is not from 0 to 2", "setArity(0, 1) = 2", "setArity(2, 3) = 1",
                "term 0 f(z) = 2", "term 1 h(x,y,w) = 4", "saveSnapshot() = 0", "term 1 g(f(z),h(z,z,z)) = 7",
                "!setArity({-1,3,LOW,HIGH,256}, {1,3}) = NO_SUCH_ELEMENT",
                "!setArity({-1,3}, {0,4,LOW,HIGH}) = NO_SUCH_ELEMENT", "rule f(x)>x = 0",
                "!setArity({-1,3}, {0,1,3,4}) = NO_SUCH_ELEMENT");
        at(2, "OUT_OF_RANGE if arity is not from 1 to 3", "setArity(0, 1) = 2", "setArity(0, 3) = 1",
                "term 0 f(z,x,h(z)) = 5", "term 1 g(x,y) = 3", "!setArity({0,1,2}, {0,4,-1,LOW,HIGH}) = OUT_OF_RANGE",
                "rule f(x,y,w)>x = 0", "!setArity({0,1,2}, {0,4}) = OUT_OF_RANGE");
        at(2, "NOT_POSSIBLE if there are rules", "setArity(2, 2) = 1", "term 0 f(z,h(z,z)) = 5", "rule g(x,y)>x = 0",
                "!setArity({0,1,2}, {1,2,3}) = NOT_POSSIBLE", "removeRule(0) = 0", "setArity(2, 1) = 2", "shows 0 z");
        at(2, "NOT_POSSIBLE if there are rules", join(SIX_RULES, "term 0 f(z,z) = 3",
                "!setArity({0,1,2}, {1,3}) = NOT_POSSIBLE"));
        at(3, "Returns the arity, 1 to 3", "setArity(0, 1) = 2", "setArity(1, 3) = 2", "setArity(2, 2) = 1",
                "!arity(0) = 1", "!arity(1) = 3", "!arity(2) = 2");
        at(3, "NO_SUCH_ELEMENT if function is not from 0 to 2", "!arity(0) = 2", "!arity(2) = 1",
                "!arity({-1,3,LOW,HIGH,102,256}) = NO_SUCH_ELEMENT");
    }

    private static void addRule() {
        at(4, "The text buffer is empty afterwards, unless FULL is returned",
                "rule h(x)>x = 0", "textLength() = 0", "~rule h(x)>y = INVALID", "textLength() = 0",
                "~rule h(x)> = -105", "textLength() = 0", "rule h(x)>x = 1", "rule h(x)>x = 2", "rule h(x)>x = 3",
                "rule h(x)>x = 4", "rule h(x)>x = 5", "type h(z)>z", "!addRule() = FULL", "textLength() = 6",
                "removeRule(0) = 5", "addRule() = 5", "textLength() = 0", "loadLeft(5, 0) = 2", "shows 0 h(z)");
        at(4, "Returns the number of the new rule", "rule h(x)>x = 0", "rule h(x)>x = 1", "rule h(x)>x = 2",
                "rule h(x)>x = 3", "rule h(x)>x = 4", "rule h(x)>x = 5", "removeRule(0) = 5", "rule h(z)>z = 5",
                "removeRule(0) = 5", "removeRule(0) = 4", "rule h(z)>z = 4");
        at(4, "Returns the number of the new rule",
                "type " + LONG_RULE, "textLength() = 80", "addRule() = 0", "rightSize(0) = 26");
        for (String text : new String[] {"h(x)>x", "h(x", "h(x)>y", "k", " ", "h(x)>x)"}) {
            at(4, "FULL if there are already 6 rules", join(SIX_RULES, "type " + text, "!addRule() = FULL",
                    "textLength() = " + text.length()));
        }
        at(4, "FULL if there are already 6 rules", join(SIX_RULES, "!addRule() = FULL", "textLength() = 0",
                "removeRule(3) = 5", "~addRule() = -100", "rule h(x)>x = 5", "!addRule() = FULL"));
        at(4, "-100 minus the error position if the text is not a rule by its syntax",
                "~rule  = -100", "~rule > = -100", "~rule k = -100", "~rule F(x,y)>x = -100", "~rule h>z = -101",
                "~rule hz = -101", "~rule x(z)>z = -101", "~rule z(z)>z = -101", "~rule h()>z = -102",
                "~rule h(,)>z = -102",
                "~rule h(z = -103", "~rule h(z,z)>z = -103", "~rule f(z)>z = -103", "~rule h(z)z = -104",
                "~rule h(z),z = -104", "~rule h(z)) = -104", "~rule h(z)>>z = -105", "~rule h(z)>z>z = -106",
                "~rule h(z)>zz = -106", "~rule h(z)>z) = -106", "~rule h(z)>s(z = -108", "~rule h(z)>s(z,z) = -108");
        at(4, "-100 minus the error position if the text is not a rule by its syntax",
                "type  h(z)>z", "~addRule() = -100", "type h (z)>z", "~addRule() = -101", "type h(z) >z",
                "~addRule() = -104", "type h(z)> z", "~addRule() = -105", "type h(z)>z ", "~addRule() = -106");
        // A wrong syntax is listed before a wrong rule.
        at(4, "-100 minus the error position if the text is not a rule by its syntax",
                "~rule z>z) = -103", "~rule h(h(x))>x> = -109", "~rule h(x)>y( = -106", "ruleCount() = 0");
        at(4, "INVALID if the rule violates one of the conditions for rules",
                "rule h(x)>h(x) = 0", "saveSnapshot() = 1", "~rule x>x = INVALID", "~rule z>h(z) = INVALID",
                "~rule c(x,y)>x = INVALID", "~rule s(x)>h(x) = INVALID", "~rule h(h(x))>x = INVALID",
                "~rule f(x,g(x,y))>x = INVALID", "~rule h(x)>w = INVALID", "~rule h(z)>f(z,x) = INVALID",
                "~rule y>x = INVALID", "rule h(w)>w = 1");
    }

    private static void rulesAndSizes() {
        at(5, "Returns the number of remaining rules", join(SIX_RULES, "removeRule(5) = 5", "removeRule(0) = 4",
                "removeRule(1) = 3", "removeRule(2) = 2", "removeRule(0) = 1", "shows 0 z", "loadLeft(0, 0) = 4",
                "shows 0 f(s(x),y)", "removeRule(0) = 0", "pairCount() = 0"));
        at(5, "NO_SUCH_ELEMENT if there is no such rule", join(SIX_RULES, "!removeRule(" + SIX + ") = NO_SUCH_ELEMENT",
                "removeRule(5) = 5", "!removeRule(5) = NO_SUCH_ELEMENT", "removeRule(0) = 4",
                "!removeRule({4,5}) = NO_SUCH_ELEMENT"));
        at(5, "NO_SUCH_ELEMENT if there is no such rule", "!removeRule({0,-1,LOW,HIGH}) = NO_SUCH_ELEMENT",
                "rule h(x)>x = 0", "!removeRule({1,-1}) = NO_SUCH_ELEMENT", "removeRule(0) = 0",
                "!removeRule(0) = NO_SUCH_ELEMENT");
        at(6, "Returns 0 to 6", join(join(new String[] {"!ruleCount() = 0"}, SIX_RULES), "!ruleCount() = 6",
                "type h(x)>x", "!addRule() = FULL", "!ruleCount() = 6", "removeRule(0) = 5", "!ruleCount() = 5"));
        at(7, "Returns the size", "setArity(0, 3) = 2", "rule h(x)>x = 0",
                "rule f(" + nested("c(z,", 14, "z") + ",x,x)>x = 1", "!leftSize(0) = 2", "!leftSize(1) = 32");
        at(7, "NO_SUCH_ELEMENT if there is no such rule", join(SIX_RULES, "!leftSize(0) = 2",
                "!leftSize(5) = 3", "!leftSize(" + SIX + ") = NO_SUCH_ELEMENT", "removeRule(2) = 5",
                "!leftSize(5) = NO_SUCH_ELEMENT"));
        at(7, "NO_SUCH_ELEMENT if there is no such rule", "!leftSize({0,1,-1}) = NO_SUCH_ELEMENT",
                "~rule h(x)>y = INVALID", "!leftSize(0) = NO_SUCH_ELEMENT");
        at(8, "Returns the size", "setArity(0, 3) = 2", "rule h(x)>x = 0",
                "rule h(x)>s(" + nested("f(z,z,", 10, "x") + ") = 1", "!rightSize(0) = 1", "!rightSize(1) = 32");
        at(8, "NO_SUCH_ELEMENT if there is no such rule", join(SIX_RULES, "!rightSize(0) = 1", "!rightSize(5) = 1",
                "!rightSize(4) = 3", "!rightSize(" + SIX + ") = NO_SUCH_ELEMENT", "removeRule(2) = 5",
                "!rightSize(5) = NO_SUCH_ELEMENT"));
        at(8, "NO_SUCH_ELEMENT if there is no such rule", "!rightSize({0,1,-1}) = NO_SUCH_ELEMENT",
                "~rule h(x)>y = INVALID", "!rightSize(0) = NO_SUCH_ELEMENT");
    }

    // ---- Promises 9 to 17: pairs, graph, components ----

    private static void pairs() {
        at(9, "Returns 0 or more", "!pairCount() = 0", "rule h(x)>s(x) = 0", "!pairCount() = 0", "rule h(x)>h(x) = 1",
                "!pairCount() = 1", "rule f(x,y)>f(g(x,h(x)),y) = 2", "!pairCount() = 4", "removeRule(1) = 2",
                "!pairCount() = 3");
        at(9, "Returns 0 or more", join(MOST_PAIRS, "pairCount() = 144"));
        at(10, "Returns the number of the rule", join(MOST_PAIRS, "pairRule({0,23}) = 0", "pairRule({24,47}) = 1",
                "pairRule({120,143}) = 5", "?pairRule(144) = NO_SUCH_ELEMENT"));
        at(10, "NO_SUCH_ELEMENT if there is no such pair", join(PLUS_TIMES, "!pairRule(2) = 3",
                "!pairRule({3,-1,LOW,HIGH,240,256}) = NO_SUCH_ELEMENT", "removeRule(3) = 3", "!pairRule(0) = 1",
                "!pairRule({1,2}) = NO_SUCH_ELEMENT", "removeRule(1) = 2", "!pairRule(0) = NO_SUCH_ELEMENT"));
        at(11, "Returns the position", join(MOST_PAIRS, "pairPosition({0,24,120}) = 0", "pairPosition({23,143}) = 23",
                "?pairPosition(144) = NO_SUCH_ELEMENT"));
        at(11, "Returns the position", "setArity(0, 3) = 2",
                "rule h(x)>" + nested("f(z,z,", 9, "h(x)") + " = 0", "!pairPosition(0) = 0", "!pairPosition(8) = 24",
                "!pairPosition(9) = 27", "!pairPosition(10) = NO_SUCH_ELEMENT");
        at(11, "NO_SUCH_ELEMENT if there is no such pair", join(PLUS_TIMES, "!pairPosition(2) = 2",
                "!pairPosition({3,-1,LOW,HIGH,240,256}) = NO_SUCH_ELEMENT", "removeRule(3) = 3", "!pairPosition(0) = 1",
                "!pairPosition({1,2}) = NO_SUCH_ELEMENT", "removeRule(1) = 2", "!pairPosition(0) = NO_SUCH_ELEMENT"));
        at(12, "Returns the function, 0 to 2", "rule f(x,y)>h(x) = 0", "rule g(x,y)>h(x) = 1", "rule h(x)>h(x) = 2",
                "!sourceFunction(0) = 0", "!sourceFunction(1) = 1", "!sourceFunction(2) = 2");
        at(12, "NO_SUCH_ELEMENT if there is no such pair", "!sourceFunction(0) = NO_SUCH_ELEMENT", "rule f(x,y)>x = 0",
                "!sourceFunction(0) = NO_SUCH_ELEMENT", "rule f(x,y)>h(h(x)) = 1", "!sourceFunction(1) = 0",
                "!sourceFunction({2,-1,LOW,HIGH,240,256}) = NO_SUCH_ELEMENT");
        at(13, "Returns the function, 0 to 2", "rule h(x)>f(x,g(x,h(x))) = 0", "!targetFunction(0) = 0",
                "!targetFunction(1) = 1", "!targetFunction(2) = 2");
        at(13, "NO_SUCH_ELEMENT if there is no such pair", "!targetFunction(0) = NO_SUCH_ELEMENT", "rule f(x,y)>x = 0",
                "!targetFunction(0) = NO_SUCH_ELEMENT", "rule f(x,y)>h(h(x)) = 1", "!targetFunction(1) = 2",
                "!targetFunction({2,-1,LOW,HIGH,240,256}) = NO_SUCH_ELEMENT");
    }

    private static void graph() {
        at(14, "Returns 1 if there is an edge from the first pair to the second one, 0 if not",
                "rule h(x)>f(s(x),z) = 0", "rule f(x,z)>h(x) = 1", "rule f(s(s(x)),y)>h(z) = 2",
                "rule f(x,s(y))>h(s(x)) = 3", "!hasEdge(0, {1,2}) = 1", "!hasEdge(0, {0,3}) = 0",
                "!hasEdge({1,2,3}, 0) = 1", "!hasEdge({1,2,3}, {1,2,3}) = 0");
        at(14, "Returns 1 if there is an edge from the first pair to the second one, 0 if not", join(DEAD_ENDS,
                "hasEdge({0,21,62,63,64,127,128,136}, {0,63,64}) = 1", "hasEdge({22,45,68,91,114,137}, 0) = 0"));
        at(14, "Returns 1 if there is an edge from the first pair to the second one, 0 if not", join(MOST_PAIRS,
                "hasEdge(143, {0,63,64,127,128,143}) = 1", "hasEdge({0,63,64,127,128,143}, 143) = 1",
                "?hasEdge(143, 144) = NO_SUCH_ELEMENT", "?hasEdge(144, 143) = NO_SUCH_ELEMENT"));
        // What stands behind the target in the right side plays no role, here and in the size relations.
        at(14, "Returns 1 if there is an edge from the first pair to the second one, 0 if not",
                "rule g(x,y)>c(f(x,y),s(z)) = 0", "rule f(x,y)>c(c(g(z,z),z),y) = 1", "!hasEdge(0, 1) = 1",
                "!hasEdge(1, 0) = 1", "!hasEdge(0, 0) = 0", "!hasEdge(1, 1) = 0");
        at(14, "NO_SUCH_ELEMENT if one of the pairs does not exist", join(PLUS_TIMES, "!hasEdge(2, 2) = 1",
                "!hasEdge({0,2}, {-1,3,LOW,HIGH,240,256}) = NO_SUCH_ELEMENT",
                "!hasEdge({-1,3,LOW,HIGH,240,256}, {0,2}) = NO_SUCH_ELEMENT",
                "!hasEdge({-1,3}, {-1,3}) = NO_SUCH_ELEMENT"));
        at(14, "NO_SUCH_ELEMENT if one of the pairs does not exist", "!hasEdge(0, 0) = NO_SUCH_ELEMENT",
                "rule h(x)>x = 0", "!hasEdge(0, 0) = NO_SUCH_ELEMENT", "rule h(x)>h(x) = 1", "!hasEdge(0, 0) = 1",
                "!hasEdge(0, 1) = NO_SUCH_ELEMENT", "!hasEdge(1, 0) = NO_SUCH_ELEMENT");
        at(15, "Returns 0 or more", "!edgeCount() = 0", "rule h(z)>h(s(z)) = 0", "!edgeCount() = 0",
                "rule h(s(z))>h(z) = 1", "!edgeCount() = 2", "removeRule(0) = 1", "!edgeCount() = 0");
        at(15, "Returns 0 or more", join(MOST_PAIRS, "edgeCount() = 20736", "removeRule(5) = 5",
                "edgeCount() = 14400"));
        at(15, "Returns 0 or more", join(DEAD_ENDS, "edgeCount() = 18216", "removeRule(0) = 5", "edgeCount() = 12650"));
        at(16, "Returns 0 or more", "!componentCount() = 0", "rule h(z)>h(s(z)) = 0", "!componentCount() = 0",
                "rule h(s(z))>h(z) = 1", "!componentCount() = 1", "removeRule(0) = 1", "!componentCount() = 0");
        at(16, "Returns 0 or more", "rule f(z,z)>f(z,z) = 0", "rule f(z,s(z))>f(z,s(z)) = 1",
                "rule g(z,z)>g(z,z) = 2", "rule g(s(x),z)>g(s(z),z) = 3", "rule h(z)>h(z) = 4",
                "rule h(s(x))>h(s(x)) = 5", "!componentCount() = 6", "!componentOf(5) = 5",
                "!projection(5) = NOT_FOUND",
                "!projection(6) = NO_SUCH_ELEMENT", "removeRule(0) = 5", "!componentCount() = 5");
        at(16, "Returns 0 or more", join(DEAD_ENDS, "componentCount() = 1", "remainingPairCount() = 132",
                "remainingComponentCount() = 1", "eliminationRounds() = 0", "?projection(0) = NOT_FOUND",
                "?projection(1) = NO_SUCH_ELEMENT"));
        at(17, "Returns the number of the component", "rule g(x,y)>f(y,x) = 0", "rule h(x)>h(x) = 1",
                "rule f(x,y)>f(x,g(x,y)) = 2", "!componentOf({0,2,3}) = 0", "!componentOf(1) = 1",
                "removeRule(0) = 2", "!componentOf(0) = 0", "!componentOf(1) = 1", "!componentOf(2) = NOT_FOUND");
        at(17, "NO_SUCH_ELEMENT if there is no such pair", join(PLUS_TIMES, "!componentOf(2) = 1",
                "!componentOf({3,-1,LOW,HIGH,240,256}) = NO_SUCH_ELEMENT"));
        at(17, "NO_SUCH_ELEMENT if there is no such pair", "!componentOf(0) = NO_SUCH_ELEMENT", "rule h(x)>x = 0",
                "!componentOf(0) = NO_SUCH_ELEMENT");
        at(17, "NOT_FOUND if the pair is in no component", join(DEAD_ENDS, "componentOf({0,21,23,64,136}) = 0",
                "?componentOf({22,45,137}) = NOT_FOUND", "?componentOf(138) = NO_SUCH_ELEMENT"));
        at(17, "NOT_FOUND if the pair is in no component", join(PLUS_TIMES, "!componentOf(0) = 0",
                "!componentOf(1) = NOT_FOUND"));
    }

    // ---- Promises 18 to 21: size change ----

    private static void sizeChange() {
        at(18, "Returns 0, 1 or 2", "rule f(s(x),c(y,z))>f(x,c(y,z)) = 0", "!sizeRelation(0, 0, 0) = 2",
                "!sizeRelation(0, 1, 1) = 1", "!sizeRelation(0, 0, 1) = 0", "!sizeRelation(0, 1, 0) = 0",
                "rule f(s(s(x)),y)>f(s(x),s(y)) = 1", "!sizeRelation(1, 0, 0) = 2", "!sizeRelation(1, 1, 1) = 0");
        at(18, "Returns 0, 1 or 2", "setArity(0, 3) = 2", "rule f(x,y,w)>c(f(z,z,z),x) = 0",
                "rule f(x,y,w)>c(f(z,z,z),y) = 1", "rule f(x,y,w)>c(f(z,z,z),w) = 2",
                "!sizeRelation({0,1,2}, {0,1,2}, {0,1,2}) = 0", "!sourceFunction({0,1,2}) = 0",
                "rule f(x,y,w)>f(f(z,z,z),y,w) = 3", "!sizeRelation(3, {1,2}, 0) = 0", "!sizeRelation(3, 1, 1) = 1",
                "!sizeRelation(4, {0,1,2}, {0,1,2}) = 0");
        at(18, "NO_SUCH_ELEMENT if there is no such pair, or the source or the target has no such argument",
                "setArity(0, 3) = 2", "rule f(x,y,s(w))>h(w) = 0", "rule h(s(x))>f(z,z,s(x)) = 1",
                "!sizeRelation(0, 2, 0) = 2", "!sizeRelation(1, 0, 2) = 1",
                "!sizeRelation(0, {3,-1,LOW,HIGH}, 0) = NO_SUCH_ELEMENT",
                "!sizeRelation(0, {0,2}, {1,2,3,-1,LOW,HIGH}) = NO_SUCH_ELEMENT",
                "!sizeRelation(1, {1,2,3,-1,LOW,HIGH}, {0,2}) = NO_SUCH_ELEMENT",
                "!sizeRelation(1, 0, {3,-1,LOW,HIGH}) = NO_SUCH_ELEMENT",
                "!sizeRelation({2,-1,LOW,HIGH,240,256}, 0, 0) = NO_SUCH_ELEMENT",
                "!sizeRelation(2, 3, 3) = NO_SUCH_ELEMENT");
        at(18, "NO_SUCH_ELEMENT if there is no such pair, or the source or the target has no such argument",
                "!sizeRelation(0, 0, 0) = NO_SUCH_ELEMENT", "rule g(x,y)>g(y,x) = 0", "!sizeRelation(0, 1, 0) = 1",
                "!sizeRelation(0, 2, 0) = NO_SUCH_ELEMENT", "!sizeRelation(0, 0, 2) = NO_SUCH_ELEMENT");
        at(19, "Returns the number of graphs, 0 if there are no pairs", "!closureSize() = 0", "rule h(x)>x = 0",
                "!closureSize() = 0", "rule h(s(x))>h(x) = 1", "!closureSize() = 1", "removeRule(1) = 1",
                "!closureSize() = 0");
        at(19, "Returns the number of graphs, 0 if there are no pairs", join(MOST_PAIRS, "closureSize() = 2",
                "idempotentCount() = 2", "terminatesBySizeChange() = 0"));
        at(19, "Returns the number of graphs, 0 if there are no pairs", "setArity(0, 3) = 2",
                "rule f(s(x),y,w)>f(y,w,x) = 0", "!closureSize() = 5", "!idempotentCount() = 1");
        at(19, "Returns the number of graphs, 0 if there are no pairs", "setArity(1, 3) = 2", "setArity(2, 3) = 1",
                "rule g(s(x),y,w)>g(y,w,x) = 0", "!closureSize() = 5", "!idempotentCount() = 1",
                "rule h(s(x),y,w)>h(y,w,x) = 1", "!closureSize() = 10", "!idempotentCount() = 2");
        at(19, "TOO_LARGE if it is more than 400", join(CLOSURE_OF_400, "!closureSize() = 400"));
        at(19, "TOO_LARGE if it is more than 400", join(CLOSURE_OF_401, "!closureSize() = TOO_LARGE",
                "removeRule(0) = 5", "!closureSize() = 179"));
        at(20, "Returns the number of graphs", "!idempotentCount() = 0", "rule f(x,y)>g(x,y) = 0",
                "!idempotentCount() = 0", "rule g(x,y)>g(y,x) = 1", "!idempotentCount() = 1", "removeRule(1) = 1",
                "!idempotentCount() = 0");
        at(20, "TOO_LARGE if the closure has more than 400 graphs", join(CLOSURE_OF_400, "!idempotentCount() = 115"));
        at(20, "TOO_LARGE if the closure has more than 400 graphs", join(CLOSURE_OF_401,
                "!idempotentCount() = TOO_LARGE", "removeRule(0) = 5", "!idempotentCount() = 81"));
        at(21, "Returns 1 if it succeeds, 0 if not", "!terminatesBySizeChange() = 1", "rule h(x)>x = 0",
                "!terminatesBySizeChange() = 1", "rule f(x,y)>g(x,y) = 1", "!terminatesBySizeChange() = 1",
                "rule h(s(x))>h(x) = 2", "!terminatesBySizeChange() = 1", "rule g(x,y)>g(x,y) = 3",
                "!terminatesBySizeChange() = 0", "removeRule(3) = 3", "!terminatesBySizeChange() = 1");
        at(21, "TOO_LARGE if the closure has more than 400 graphs", join(CLOSURE_OF_400,
                "!terminatesBySizeChange() = 0"));
        at(21, "TOO_LARGE if the closure has more than 400 graphs", join(CLOSURE_OF_401,
                "!terminatesBySizeChange() = TOO_LARGE", "removeRule(0) = 5", "!terminatesBySizeChange() = 0"));
    }

    // ---- Promises 22 to 26: subterm criterion ----

    private static void subtermCriterion() {
        at(22, "Returns the three-digit number of the projection", "rule h(s(x))>h(x) = 0", "!projection(0) = 111",
                "rule f(x,s(y))>f(s(x),y) = 1", "!projection(1) = 211", "rule g(x,s(y))>g(s(x),y) = 2",
                "!projection(2) = 121");
        at(22, "Returns the three-digit number of the projection", join(
                system("333", "f(x,y,w)>g(z,z,w)", "g(x,y,w)>h(z,z,w)", "h(x,y,s(w))>f(z,z,w)"), "!projection(0) = 333",
                "!projection(1) = NO_SUCH_ELEMENT", "removeRule(2) = 2", "!projection(0) = NO_SUCH_ELEMENT"));
        at(22, "Returns the three-digit number of the projection", "setArity(0, 3) = 2", "setArity(2, 3) = 1",
                "rule f(x,y,s(w))>f(y,x,w) = 0", "!projection(0) = 311", "rule h(x,y,s(w))>h(y,x,w) = 1",
                "!projection(1) = 113");
        at(22, "NO_SUCH_ELEMENT if there is no such component", join(PLUS_TIMES, "!projection({0,1}) = 111",
                "!projection({2,-1,LOW,HIGH,256}) = NO_SUCH_ELEMENT"));
        at(22, "NO_SUCH_ELEMENT if there is no such component", "!projection({0,-1}) = NO_SUCH_ELEMENT",
                "rule h(z)>h(s(z)) = 0", "!projection(0) = NO_SUCH_ELEMENT", "rule h(s(z))>h(z) = 1",
                "!projection(0) = NOT_FOUND", "!projection(1) = NO_SUCH_ELEMENT");
        at(22, "NOT_FOUND if no projection is valid", "rule f(x,y)>f(x,y) = 0", "!projection(0) = NOT_FOUND",
                "rule f(s(x),y)>f(x,z) = 1", "!projection(0) = 111", "rule f(x,s(y))>f(z,y) = 2",
                "!projection(0) = NOT_FOUND", "removeRule(1) = 2", "!projection(0) = 211");
        // No projection chooses a fourth argument, or the arguments of two functions across.
        at(22, "NOT_FOUND if no projection is valid", join(system("331", "f(x,s(y),w)>g(y,z,z)",
                "g(x,y,w)>f(z,s(z),z)"),
                "!projection(0) = NOT_FOUND"));
        at(22, "NOT_FOUND if no projection is valid", join(system("323", "f(x,s(y),w)>h(y,z,z)",
                "h(x,y,w)>f(z,s(z),z)"),
                "!projection(0) = NOT_FOUND"));
        at(22, "NOT_FOUND if no projection is valid", join(system("323", "h(x,y,s(w))>f(w,z,z)",
                "f(x,y,w)>h(z,z,s(z))"),
                "!projection(0) = NOT_FOUND"));
        at(23, "Returns 0 or more", "!eliminationRounds() = 0", "rule h(x)>x = 0", "!eliminationRounds() = 0",
                "rule h(z)>h(s(z)) = 1", "!eliminationRounds() = 0", "rule g(s(x),y)>g(x,y) = 2",
                "!eliminationRounds() = 1", "rule f(x,y)>f(y,x) = 3", "!eliminationRounds() = 1");
        at(23, "Returns 0 or more", join(
                system("321", "f(s(x),y,w)>f(x,w,y)", "f(x,s(y),w)>f(x,y,s(w))", "f(x,y,s(w))>f(x,y,w)"),
                "!eliminationRounds() = 3", "removeRule(2) = 2", "!eliminationRounds() = 2", "removeRule(1) = 1",
                "!eliminationRounds() = 1", "removeRule(0) = 0", "!eliminationRounds() = 0"));
        at(24, "Returns 0 or more", "!remainingPairCount() = 0", "rule h(z)>h(s(z)) = 0", "!remainingPairCount() = 0",
                "rule h(s(z))>h(z) = 1", "!remainingPairCount() = 2", "rule f(x,y)>h(f(y,x)) = 2",
                "!remainingPairCount() = 3", "removeRule(0) = 2", "!remainingPairCount() = 1");
        at(24, "Returns 0 or more", join(MOST_PAIRS, "remainingPairCount() = 144", "remainingComponentCount() = 1",
                "terminatesBySubtermCriterion() = 0", "?projection(0) = NOT_FOUND"));
        at(25, "Returns 0 or more", "!remainingComponentCount() = 0", "rule h(z)>h(s(z)) = 0",
                "!remainingComponentCount() = 0", "rule h(s(z))>h(z) = 1", "!remainingComponentCount() = 1",
                "rule f(x,y)>f(y,x) = 2", "rule g(x,s(y))>g(z,y) = 3", "!remainingComponentCount() = 2");
        at(26, "Returns 1 if it succeeds, 0 if not", "!terminatesBySubtermCriterion() = 1", "rule h(x)>x = 0",
                "!terminatesBySubtermCriterion() = 1", "rule h(z)>h(s(z)) = 1", "!terminatesBySubtermCriterion() = 1",
                "rule g(s(x),y)>g(x,y) = 2", "!terminatesBySubtermCriterion() = 1", "rule f(x,y)>f(x,y) = 3",
                "!terminatesBySubtermCriterion() = 0", "removeRule(3) = 3", "!terminatesBySubtermCriterion() = 1");
    }

    // ---- Promises 27 to 34: registers ----

    private static void parseTerm() {
        at(27, "The text buffer is empty afterwards, unless NO_SUCH_ELEMENT is returned",
                "term 0 s(z) = 2", "textLength() = 0", "~term 0 s(z = -103", "textLength() = 0", "type s(x)",
                "!parseTerm({-1,4,LOW,HIGH}) = NO_SUCH_ELEMENT", "textLength() = 4", "parseTerm(3) = 2",
                "textLength() = 0", "shows 3 s(x)");
        at(27, "Returns the size of the term", "term 0 z = 1", "term 1 h(w) = 2", "term 2 " + LONG_TERM + " = 28",
                "setArity(0, 3) = 2",
                "term 3 " + nested("f(z,x,", 11, "y") + " = 34");
        at(27, "NO_SUCH_ELEMENT if there is no such register", "type h(z)",
                "!parseTerm({-1,4,5,LOW,HIGH,256}) = NO_SUCH_ELEMENT", "parseTerm(0) = 2", "term 3 s(z) = 2",
                "type h(", "!parseTerm({-1,4}) = NO_SUCH_ELEMENT", "~parseTerm(0) = -102",
                "!parseTerm({-1,4}) = NO_SUCH_ELEMENT");
        at(27, "-100 minus the error position if the text is not a term", "term 1 s(x) = 2", "saveSnapshot() = 0",
                "term 1 c(x,y) = 3", "~term 1  = -100", "~term 1 k = -100", "~term 1 ( = -100", "~term 1 , = -100",
                "~term 1 Z = -100", "~term 1 zz = -101", "~term 1 x(z) = -101", "~term 1 z> = -101", "~term 1 s = -101",
                "~term 1 sz = -101", "~term 1 s() = -102", "~term 1 s(z = -103", "~term 1 s(z,z) = -103",
                "~term 1 c(z) = -103", "~term 1 c(z,z,z) = -105", "~term 1 s(z)) = -104", "~term 1 h(x)>x = -104",
                "shows 1 c(x,y)");
        at(27, "-100 minus the error position if the text is not a term", "type  z", "~parseTerm(0) = -100", "type z ",
                "~parseTerm(0) = -101", "type c(z, z)", "~parseTerm(0) = -104", "type ~", "~parseTerm(0) = -100");
        // 80 characters hold at most 34 symbols, so that the largest text still is a term.
        at(27, "INVALID if the term has more than 40 symbols", "setArity(0, 3) = 2", "term 0 "
                + nested("s(", 3, nested("f(z,z,", 10, "z")) + " = 34", "termSize(0) = 34");
    }

    private static void registers() {
        at(28, "Returns the size", join(GROWING, "term 3 h(z) = 2", "!termSize(0) = 1", "!termSize(3) = 2",
                "rewriteOutermost(3, 100) = 38", "!termSize(3) = 40"));
        at(28, "NO_SUCH_ELEMENT if there is no such register", "term 0 h(z) = 2", "term 3 s(h(z)) = 3",
                "!termSize(0) = 2",
                "!termSize(3) = 3", "!termSize({-1,4,LOW,HIGH,256}) = NO_SUCH_ELEMENT");
        at(29, "Returns the number of characters", join(GROWING, "!formattedLength(0) = 1", "term 0 h(z) = 2",
                "!formattedLength(0) = 4", "rewriteOutermost(0, 100) = 38", "!formattedLength(0) = 118"));
        at(29, "Returns the number of characters", "setArity(0, 3) = 2", "rule h(x)>f(x,x,f(z,z,f(z,z,z))) = 0",
                "term 0 " + nested("f(z,z,", 10, "h(z)") + " = 32", "rewriteAt(0, 30) = 40", "!formattedLength(0) = 92",
                "shows 0 " + nested("f(z,z,", 13, "z"));
        at(29, "NO_SUCH_ELEMENT if there is no such register", "!formattedLength(3) = 1",
                "!formattedLength({-1,4,LOW,HIGH,256}) = NO_SUCH_ELEMENT");
        at(30, "Returns the character code", join(GROWING, "!formattedCharacter(3, 0) = 122", "term 0 h(z) = 2",
                "rewriteOutermost(0, 100) = 38", "!formattedCharacter(0, 0) = 104", "!formattedCharacter(0, 1) = 40",
                "!formattedCharacter(0, 78) = 122", "!formattedCharacter(0, 79) = 41",
                "!formattedCharacter(0, 117) = 41"));
        at(30, "NO_SUCH_ELEMENT if there is no such register or no such character", join(GROWING, "term 0 h(z) = 2",
                "!formattedCharacter(0, 3) = 41", "!formattedCharacter(0, {4,-1,LOW,HIGH}) = NO_SUCH_ELEMENT",
                "!formattedCharacter({-1,4,LOW,HIGH}, {0,-1,4}) = NO_SUCH_ELEMENT",
                "!formattedCharacter(1, 1) = NO_SUCH_ELEMENT", "rewriteOutermost(0, 100) = 38",
                "!formattedCharacter(0, {118,159,160,256}) = NO_SUCH_ELEMENT"));
        at(31, "Returns 0 if the term in first is lower, 1 if both are equal, 2 if it is higher",
                "!compareTerms(0, 3) = 1", "!compareTerms(3, 3) = 1", "term 3 w = 1", "!compareTerms(3, 0) = 0",
                "!compareTerms(0, 3) = 2", "term 1 c(z,x) = 3", "term 2 c(z,y) = 3", "!compareTerms(1, 2) = 0",
                "!compareTerms(2, 1) = 2", "!compareTerms(0, 1) = 0");
        at(31, "Returns 0 if the term in first is lower, 1 if both are equal, 2 if it is higher", join(GROWING,
                "term 0 h(z) = 2", "term 1 h(y) = 2", "rewriteOutermost({0,1}, 100) = 38", "!compareTerms(0, 1) = 2",
                "!compareTerms(1, 0) = 0", "!compareTerms(0, 0) = 1"));
        at(31, "NO_SUCH_ELEMENT if one of the registers does not exist", "!compareTerms({0,3}, {0,3}) = 1",
                "!compareTerms({-1,4,LOW,HIGH}, {0,3}) = NO_SUCH_ELEMENT",
                "!compareTerms({0,3}, {-1,4,LOW,HIGH}) = NO_SUCH_ELEMENT",
                "!compareTerms({-1,4}, {-1,4}) = NO_SUCH_ELEMENT");
        at(32, "Returns the size of the term", join(GROWING, "term 0 h(z) = 2", "rewriteOutermost(0, 100) = 38",
                "copyTerm(0, 3) = 40", "termSize(3) = 40", "compareTerms(0, 3) = 1", "!copyTerm(0, 0) = 40",
                "copyTerm(1, 0) = 1", "shows 0 z", "termSize(3) = 40"));
        at(32, "NO_SUCH_ELEMENT if one of the registers does not exist", "term 0 s(z) = 2", "term 3 h(x) = 2",
                "!copyTerm({-1,4,LOW,HIGH}, {0,3}) = NO_SUCH_ELEMENT",
                "!copyTerm({0,3}, {-1,4,LOW,HIGH}) = NO_SUCH_ELEMENT", "!copyTerm({-1,4}, {-1,4}) = NO_SUCH_ELEMENT",
                "copyTerm(3, 0) = 2", "shows 0 h(x)");
        at(33, "Returns the size of the term", join(SIX_RULES, "loadLeft(0, 0) = 2", "loadLeft(5, 3) = 3",
                "shows 0 h(z)",
                "shows 3 g(x,x)", "rewriteAt(3, 0) = 3", "shows 3 f(x,x)", "loadLeft(5, 3) = 3", "shows 3 g(x,x)"));
        at(33, "NO_SUCH_ELEMENT if there is no such rule or register", join(SIX_RULES, "term 0 s(x) = 2",
                "!loadLeft(" + SIX + ", {0,3}) = NO_SUCH_ELEMENT",
                "!loadLeft({0,5}, {-1,4,LOW,HIGH}) = NO_SUCH_ELEMENT",
                "!loadLeft(6, 4) = NO_SUCH_ELEMENT", "removeRule(5) = 5", "!loadLeft(5, 0) = NO_SUCH_ELEMENT"));
        at(33, "NO_SUCH_ELEMENT if there is no such rule or register", "!loadLeft(0, 0) = NO_SUCH_ELEMENT",
                "~rule h(x)>y = INVALID", "!loadLeft(0, 0) = NO_SUCH_ELEMENT");
        at(34, "Returns the size of the term", join(SIX_RULES, "loadRight(0, 0) = 1", "loadRight(4, 3) = 3",
                "shows 0 z",
                "shows 3 f(x,y)", "loadRight(5, 3) = 1", "shows 3 x"));
        at(34, "NO_SUCH_ELEMENT if there is no such rule or register", join(SIX_RULES, "term 0 s(x) = 2",
                "!loadRight(" + SIX + ", {0,3}) = NO_SUCH_ELEMENT",
                "!loadRight({0,5}, {-1,4,LOW,HIGH}) = NO_SUCH_ELEMENT",
                "!loadRight(6, 4) = NO_SUCH_ELEMENT", "removeRule(5) = 5", "!loadRight(5, 0) = NO_SUCH_ELEMENT"));
        at(34, "NO_SUCH_ELEMENT if there is no such rule or register", "!loadRight(0, 0) = NO_SUCH_ELEMENT",
                "~rule h(x)>y = INVALID", "!loadRight(0, 0) = NO_SUCH_ELEMENT");
    }

    // ---- Promises 35 to 40: rewriting ----

    // 22 symbols; the sequence from it repeats after exactly 100 steps.
    private static final String NINE = nested("s(", 9, "z");
    private static final String[] HUNDRED_STEPS = join(
            system("321", "f(s(x),y,w)>f(x,y,s(w))", "f(z,s(y),w)>f(w,y,z)", "f(z,z,w)>f(w," + NINE + ",z)"),
            "term 0 f(" + NINE + "," + NINE + ",z) = 22");

    private static void redexes() {
        at(35, "Returns 1 if it matches, 0 if not", join(SIX_RULES, "term 0 f(h(z),g(z,z)) = 6",
                "!matches(0, 0, 1) = 1",
                "!matches(0, 0, {0,2,3,5}) = 0", "!matches(5, 0, 3) = 1", "!matches(5, 0, {0,5}) = 0"));
        at(35, "Returns 1 if it matches, 0 if not", "rule g(x,c(x,y))>x = 0", "term 0 g(s(z),c(s(z),w)) = 7",
                "!matches(0, 0, 0) = 1", "term 0 g(s(z),c(z,s(z))) = 7", "!matches(0, 0, 0) = 0", "term 0 g(x,x) = 3",
                "!matches(0, 0, 0) = 0");
        at(35, "NO_SUCH_ELEMENT if there is no such rule, register or position", join(SIX_RULES, "term 0 f(z,h(z)) = 4",
                "!matches(0, 0, {0,3}) = 0", "!matches(0, 0, {-1,4,40,LOW,HIGH}) = NO_SUCH_ELEMENT",
                "!matches(" + SIX + ", 0, 0) = NO_SUCH_ELEMENT", "!matches(5, {-1,4,LOW,HIGH}, 0) = NO_SUCH_ELEMENT",
                "!matches(0, 3, 0) = 0", "!matches(0, 3, 1) = NO_SUCH_ELEMENT",
                "!matches(6, 4, 40) = NO_SUCH_ELEMENT"));
        at(35, "NO_SUCH_ELEMENT if there is no such rule, register or position", join(GROWING, "term 0 h(z) = 2",
                "rewriteOutermost(0, 100) = 38", "!matches(0, 0, 39) = 0", "!matches(0, 0, 40) = NO_SUCH_ELEMENT"));
        at(35, "NO_SUCH_ELEMENT if there is no such rule, register or position", "!matches(0, 0, 0) = NO_SUCH_ELEMENT");
        at(36, "Returns the number of redexes", "term 0 h(h(z)) = 3", "!redexCount(0) = 0", "rule h(x)>s(s(x)) = 0",
                "!redexCount(0) = 2", "!redexCount(1) = 0", "term 0 " + nested("h(", 26, "z") + " = 27",
                "!redexCount(0) = 26");
        at(36, "NO_SUCH_ELEMENT if there is no such register", "rule h(x)>x = 0", "term 0 h(z) = 2",
                "term 3 h(h(z)) = 3",
                "!redexCount(0) = 1", "!redexCount(3) = 2", "!redexCount({-1,4,LOW,HIGH,256}) = NO_SUCH_ELEMENT");
        at(37, "The redexes are numbered from 0 in ascending order of their positions", "rule h(s(x))>x = 0",
                "rule f(x,y)>x = 1", "term 0 c(f(h(s(z)),z),h(s(z))) = 9", "!redexAt(0, 0) = 1", "!redexAt(0, 1) = 2",
                "!redexAt(0, 2) = 6", "!redexAt(0, 3) = NOT_FOUND");
        at(37, "Returns the position", "rule h(x)>s(h(x)) = 0", "term 0 h(z) = 2", "!redexAt(0, 0) = 0",
                "rewriteOutermost(0, 100) = 38", "!redexAt(0, 0) = 38", "!redexAt(0, 1) = NOT_FOUND");
        at(37, "NO_SUCH_ELEMENT if there is no such register or index is negative", "rule h(x)>x = 0",
                "term 3 h(z) = 2",
                "!redexAt(3, 0) = 0", "!redexAt({0,3}, {-1,LOW}) = NO_SUCH_ELEMENT",
                "!redexAt({-1,4,LOW,HIGH}, {0,-1,1}) = NO_SUCH_ELEMENT");
        at(37, "NOT_FOUND if index is not less than the number of redexes", "!redexAt(0, {0,1,HIGH}) = NOT_FOUND",
                "rule h(x)>x = 0", "term 0 h(h(z)) = 3", "!redexAt(0, 1) = 1", "!redexAt(0, {2,3,40,HIGH}) = NOT_FOUND",
                "!redexAt(1, 0) = NOT_FOUND");
    }

    private static void rewriteAt() {
        at(38, "Returns the size of the new term", "rule h(x)>z = 0", "rule f(x,y)>c(y,s(x)) = 1",
                "term 0 s(f(h(z),w)) = 5", "rewriteAt(0, 1) = 6", "shows 0 s(c(w,s(h(z))))", "rewriteAt(0, 4) = 5",
                "shows 0 s(c(w,s(z)))", "term 3 h(f(z,z)) = 4", "rewriteAt(3, 0) = 1", "shows 3 z");
        at(38, "NO_SUCH_ELEMENT if there is no such register or position", "rule h(x)>x = 0", "term 0 c(z,h(z)) = 4",
                "!rewriteAt(0, {-1,4,40,LOW,HIGH}) = NO_SUCH_ELEMENT",
                "!rewriteAt({-1,4,LOW,HIGH}, {0,-1,40}) = NO_SUCH_ELEMENT", "!rewriteAt(3, 0) = NOT_FOUND",
                "!rewriteAt(3, 1) = NO_SUCH_ELEMENT", "rewriteAt(0, 2) = 3", "!rewriteAt(0, 3) = NO_SUCH_ELEMENT");
        at(38, "NOT_FOUND if the position is not a redex", "rule h(s(x))>x = 0", "term 0 c(z,h(s(z))) = 5",
                "!rewriteAt(0, {0,1,3,4}) = NOT_FOUND", "rewriteAt(0, 2) = 3", "!rewriteAt(0, {0,1,2}) = NOT_FOUND",
                "removeRule(0) = 0", "term 0 h(s(z)) = 3", "!rewriteAt(0, 0) = NOT_FOUND");
        at(38, "TOO_LARGE if the step is impossible", join(GROWING, "term 0 h(g(z,z)) = 4",
                "rewriteOutermost(0, 35) = 35", "rewriteAt(0, 0) = 40", "!rewriteAt(0, 0) = TOO_LARGE",
                "!rewriteAt(0, 1) = NOT_FOUND", "!rewriteAt(0, 40) = NO_SUCH_ELEMENT", "rewriteAt(0, 37) = 38",
                "rewriteAt(0, 0) = 39"));
        // To 44 symbols; the step by the second rule would fit, but the lowest matching rule is used.
        at(38, "TOO_LARGE if the step is impossible", "rule f(x,y)>c(x,c(x,x)) = 0", "rule f(x,s(y))>y = 1",
                "term 0 f(" + nested("c(z,", 6, "s(z)") + ",s(z)) = 17", "!rewriteAt(0, 0) = TOO_LARGE",
                "removeRule(0) = 1", "rewriteAt(0, 0) = 1");
        // The result has 4 symbols and three times the argument: 12 symbols lead to 40, and one more around it to 41.
        at(38, "TOO_LARGE if the step is impossible", "rule h(x)>s(s(c(x,c(x,x)))) = 0",
                "term 0 h(" + nested("s(", 11, "z") + ") = 13", "rewriteAt(0, 0) = 40",
                "term 0 h(" + nested("s(", 12, "z") + ") = 14", "!rewriteAt(0, 0) = TOO_LARGE",
                "term 0 s(h(" + nested("s(", 11, "z") + ")) = 14", "!rewriteAt(0, 1) = TOO_LARGE");
    }

    private static void rewriteOutermost() {
        String sentence = "Performs rewrite steps at the outermost redex of the term in a register, one after the "
                + "other, until the given number of steps is reached, the term is a normal form, or the next step is "
                + "impossible";
        at(39, sentence, "rule f(x,y)>f(y,x) = 0", "term 0 f(z,x) = 3", "rewriteOutermost(0, 99) = 99",
                "shows 0 f(x,z)",
                "rewriteOutermost(0, 100) = 100", "shows 0 f(x,z)");
        at(39, sentence, "rule h(s(x))>h(x) = 0", "term 0 h(" + nested("s(", 20, "z") + ") = 22",
                "rewriteOutermost(0, 19) = 19", "rewriteOutermost(0, 2) = 1", "!rewriteOutermost(0, 100) = 0",
                "shows 0 h(z)");
        at(39, sentence, join(GROWING, "term 0 h(g(z,z)) = 4", "rewriteOutermost(0, 100) = 36",
                "!rewriteOutermost(0, 100) = 0", "redexCount(0) = 2", "termSize(0) = 40"));
        at(39, "Returns the number of steps performed", join(HUNDRED_STEPS, "!rewriteOutermost(0, 0) = 0",
                "copyTerm(0, 1) = 22", "rewriteOutermost(0, 99) = 99", "compareTerms(0, 1) = 0",
                "rewriteOutermost(0, 1) = 1", "compareTerms(0, 1) = 1", "rewriteOutermost(0, 100) = 100",
                "compareTerms(0, 1) = 1", "!rewriteOutermost(3, 100) = 0"));
        at(39, "NO_SUCH_ELEMENT if there is no such register", "rule h(x)>x = 0", "term 0 h(z) = 2", "term 3 h(z) = 2",
                "!rewriteOutermost({-1,4,LOW,HIGH}, {0,1,100}) = NO_SUCH_ELEMENT",
                "!rewriteOutermost({-1,4}, {-1,101}) = NO_SUCH_ELEMENT", "rewriteOutermost({0,3}, 1) = 1");
        at(39, "OUT_OF_RANGE if limit is not from 0 to 100", "rule h(x)>h(x) = 0", "term 0 h(z) = 2",
                "!rewriteOutermost(0, 0) = 0", "rewriteOutermost(0, 100) = 100",
                "!rewriteOutermost({0,3}, {-1,101,LOW,HIGH}) = OUT_OF_RANGE");
    }

    private static void findLoop() {
        at(40, "The register does not change", join(HUNDRED_STEPS, "!findLoop(0, 100) = 100",
                "!findLoop(0, 99) = NOT_FOUND"));
        at(40, "Returns the lowest number of steps after which the term is equal to an earlier term of the sequence",
                "rule h(x)>h(x) = 0", "term 0 h(z) = 2", "!findLoop(0, 1) = 1", "!findLoop(0, 100) = 1");
        at(40, "Returns the lowest number of steps after which the term is equal to an earlier term of the sequence",
                "rule h(s(x))>h(x) = 0", "rule h(z)>h(s(z)) = 1", "term 3 h(s(s(s(z)))) = 5",
                "!findLoop(3, 3) = NOT_FOUND",
                "!findLoop(3, 4) = 4", "!findLoop(3, 5) = 4");
        at(40, "NO_SUCH_ELEMENT if there is no such register", "rule h(x)>h(x) = 0", "term 0 h(z) = 2",
                "term 3 h(z) = 2",
                "!findLoop({0,3}, 1) = 1", "!findLoop({-1,4,LOW,HIGH}, {1,100}) = NO_SUCH_ELEMENT",
                "!findLoop({-1,4}, {0,101}) = NO_SUCH_ELEMENT");
        at(40, "OUT_OF_RANGE if limit is not from 1 to 100", "rule h(x)>h(x) = 0", "term 0 h(z) = 2",
                "!findLoop(0, {1,100}) = 1", "!findLoop({0,3}, {0,-1,101,LOW,HIGH}) = OUT_OF_RANGE");
        String notFound = "NOT_FOUND if there is no repetition within the limit, or if a normal form or an impossible "
                + "step comes first";
        at(40, notFound, join(HUNDRED_STEPS, "rewriteOutermost(0, 1) = 1", "!findLoop(0, 99) = NOT_FOUND",
                "!findLoop(0, 100) = 100"));
        at(40, notFound, "rule h(s(x))>h(x) = 0", "term 0 h(s(z)) = 3", "!findLoop({0,1}, {1,2,100}) = NOT_FOUND");
        at(40, notFound, join(GROWING, "term 0 h(z) = 2", "!findLoop(0, {37,38,39,100}) = NOT_FOUND",
                "rewriteOutermost(0, 38) = 38", "!findLoop(0, {1,100}) = NOT_FOUND"));
    }

    // ---- Promises 41 to 45: exploration ----

    private static final String NO_LIMIT = "{0,-1,31,LOW,HIGH}";
    private static final String NO_REGISTER = "{-1,4,LOW,HIGH}";

    private static void explorations() {
        at(41, "Returns the number of terms", join(THIRTY_TERMS, "!exploredCount(0, 1) = 1", "!exploredCount(0, 2) = 2",
                "!exploredCount(0, 30) = 30", "!exploredCount(3, 30) = 1"));
        at(41, "Returns the number of terms", "rule h(z)>z = 0", "term 0 c(h(z),c(h(z),c(h(z),c(h(z),h(z))))) = 14",
                "!exploredCount(0, 29) = 29", "!exploredCount(0, 30) = 30", "rewriteAt(0, 1) = 13",
                "!exploredCount(0, 30) = 16");
        at(41, "Returns the number of terms", join(GROWING, "term 0 h(z) = 2", "rewriteOutermost(0, 10) = 10",
                "!exploredCount(0, 28) = 28", "!exploredCount(0, 29) = 29", "!exploredCount(0, 30) = 29",
                "rewriteOutermost(0, 28) = 28", "!exploredCount(0, 30) = 1"));
        at(41, "Returns the number of terms", "rule h(x)>h(x) = 0", "term 0 h(z) = 2",
                "!exploredCount(0, {1,2,30}) = 1",
                "rule f(x,y)>f(y,x) = 1", "term 0 f(z,x) = 3", "!exploredCount(0, {2,3,30}) = 2");
        at(41, "NO_SUCH_ELEMENT if there is no such register", "!exploredCount({0,3}, {1,30}) = 1",
                "!exploredCount(" + NO_REGISTER + ", {1,30,0,31}) = NO_SUCH_ELEMENT");
        at(41, "OUT_OF_RANGE if limit is not from 1 to 30", "!exploredCount(0, {1,30}) = 1",
                "!exploredCount({0,3}, " + NO_LIMIT + ") = OUT_OF_RANGE");
        at(42, "Returns the number of terms", join(THIRTY_TERMS, "!exploredNormalForms(0, 9) = 0",
                "!exploredNormalForms(0, 10) = 1", "!exploredNormalForms(0, 30) = 1", "!exploredNormalForms(3, 1) = 1",
                "removeRule(0) = 0", "!exploredNormalForms(0, {1,30}) = 1"));
        at(42, "Returns the number of terms", join(GROWING, "term 0 h(z) = 2", "rewriteOutermost(0, 38) = 38",
                "!exploredNormalForms(0, 30) = 0"));
        at(42, "NO_SUCH_ELEMENT if there is no such register", "!exploredNormalForms({0,3}, {1,30}) = 1",
                "!exploredNormalForms(" + NO_REGISTER + ", {1,30,0,31}) = NO_SUCH_ELEMENT");
        at(42, "OUT_OF_RANGE if limit is not from 1 to 30", "!exploredNormalForms(0, {1,30}) = 1",
                "!exploredNormalForms({0,3}, " + NO_LIMIT + ") = OUT_OF_RANGE");
        at(43, "Returns the size", join(THIRTY_TERMS, "!lastExploredSize(0, 1) = 14", "!lastExploredSize(0, 2) = 13",
                "!lastExploredSize(0, 9) = 6", "!lastExploredSize(0, 10) = 5", "!lastExploredSize(0, 11) = 9",
                "!lastExploredSize(0, 29) = 11", "!lastExploredSize(0, 30) = 10", "!lastExploredSize(3, 30) = 1"));
        at(43, "Returns the size", join(GROWING, "term 0 h(z) = 2", "!lastExploredSize(0, 30) = 31",
                "rewriteOutermost(0, 9) = 9", "!lastExploredSize(0, 30) = 40", "rewriteOutermost(0, 1) = 1",
                "!lastExploredSize(0, 29) = 40", "!lastExploredSize(0, 30) = 40"));
        at(43, "NO_SUCH_ELEMENT if there is no such register", "!lastExploredSize({0,3}, {1,30}) = 1",
                "!lastExploredSize(" + NO_REGISTER + ", {1,30,0,31}) = NO_SUCH_ELEMENT");
        at(43, "OUT_OF_RANGE if limit is not from 1 to 30", "!lastExploredSize(0, {1,30}) = 1",
                "!lastExploredSize({0,3}, " + NO_LIMIT + ") = OUT_OF_RANGE");
    }

    private static void normalForms() {
        at(44, "Returns the size of the term", join(THIRTY_TERMS, "loadNormalForm(0, 10, 3) = 5",
                "shows 3 c(h(z),h(z))",
                "loadNormalForm(0, 30, 0) = 5", "shows 0 c(h(z),h(z))", "!loadNormalForm(0, 1, 0) = 5"));
        at(44, "Returns the size of the term", join(GROWING, "term 0 f(z,z) = 3", "rewriteOutermost(0, 37) = 37",
                "removeRule(1) = 2", "loadNormalForm(0, 1, 3) = 40",
                "compareTerms(0, 3) = 1"));
        // The lowest normal form is the first that is found, then the last.
        at(44, "Returns the size of the term", "rule f(z,y)>z = 0", "rule f(x,y)>s(s(y)) = 1", "rule h(z)>z = 2",
                "term 0 f(h(z),z) = 4", "!exploredNormalForms(0, 30) = 2", "loadNormalForm(0, 3, 1) = 1", "shows 1 z",
                "loadNormalForm(0, 4, 2) = 1", "shows 2 z");
        at(44, "Returns the size of the term", "rule f(z,y)>g(y,y) = 0", "rule f(x,y)>s(y) = 1",
                "rule g(x,y)>x = 2", "rule h(z)>z = 3", "term 0 f(h(z),y) = 4", "loadNormalForm(0, 2, 3) = 2",
                "shows 3 s(y)",
                "loadNormalForm(0, 30, 3) = 1", "shows 3 y", "exploredNormalForms(0, 30) = 2");
        at(44, "NO_SUCH_ELEMENT if there is no such register or no such target", join(THIRTY_TERMS,
                "!loadNormalForm(" + NO_REGISTER + ", {1,30,0,31}, {0,3}) = NO_SUCH_ELEMENT",
                "!loadNormalForm({0,3}, {1,30,0,31}, " + NO_REGISTER + ") = NO_SUCH_ELEMENT",
                "!loadNormalForm({-1,4}, 30, {-1,4}) = NO_SUCH_ELEMENT", "loadNormalForm(3, 1, 0) = 1", "shows 0 z"));
        at(44, "OUT_OF_RANGE if limit is not from 1 to 30", join(THIRTY_TERMS,
                "!loadNormalForm(0, " + NO_LIMIT + ", {0,3}) = OUT_OF_RANGE", "loadNormalForm(0, 30, 3) = 5"));
        at(44, "OUT_OF_RANGE if limit is not from 1 to 30", "rule h(x)>h(x) = 0", "term 0 h(z) = 2",
                "!loadNormalForm(0, {1,30}, 1) = NOT_FOUND", "!loadNormalForm(0, " + NO_LIMIT + ", 1) = OUT_OF_RANGE");
        at(44, "NOT_FOUND if there is no normal form among them", join(THIRTY_TERMS, "term 3 s(x) = 2",
                "!loadNormalForm(0, {1,9}, {0,3}) = NOT_FOUND", "loadNormalForm(0, 10, 3) = 5"));
        at(44, "NOT_FOUND if there is no normal form among them", join(GROWING, "term 0 h(z) = 2",
                "rewriteOutermost(0, 38) = 38", "!loadNormalForm(0, {1,30}, 1) = NOT_FOUND"));
        at(45, "Returns 0 to 4", "!normalFormRegisterCount() = 4", "term 0 h(z) = 2",
                "!normalFormRegisterCount() = 4", "rule h(x)>h(x) = 0", "!normalFormRegisterCount() = 3",
                "copyTerm(0, 1) = 2", "copyTerm(0, 2) = 2", "!normalFormRegisterCount() = 1", "copyTerm(0, 3) = 2",
                "!normalFormRegisterCount() = 0", "removeRule(0) = 0", "!normalFormRegisterCount() = 4");
        at(45, "Returns 0 to 4", join(GROWING, "term 3 h(z) = 2", "rewriteOutermost(3, 38) = 38",
                "!normalFormRegisterCount() = 3"));
    }

    // ---- Promises 46 to 50: text and snapshot ----

    private static void text() {
        at(46, "Returns the new length of the text", "appendCharacter(122) = 1", "appendCharacter(122) = 2",
                "clearText() = 2", "appendCharacter(122) = 1", "parseTerm(0) = 1", "appendCharacter(122) = 1");
        at(46, "Returns the new length of the text", "type " + "z".repeat(78), "appendCharacter(122) = 79",
                "appendCharacter(122) = 80", "!appendCharacter(122) = FULL");
        at(46, "OUT_OF_RANGE if character is not from 32 to 126", "appendCharacter(32) = 1", "appendCharacter(126) = 2",
                "!appendCharacter({31,127,0,-1,10,255,256,378,LOW,HIGH}) = OUT_OF_RANGE", "textLength() = 2");
        at(46, "OUT_OF_RANGE if character is not from 32 to 126", "type s(z",
                "!appendCharacter({31,127,297,-215}) = OUT_OF_RANGE", "appendCharacter(41) = 4", "parseTerm(0) = 2");
        at(46, "FULL if the text has 80 characters", "type " + LONG_TERM, "!appendCharacter({32,41,126}) = FULL",
                "!appendCharacter({31,127}) = OUT_OF_RANGE", "textLength() = 80", "clearText() = 80",
                "appendCharacter(122) = 1", "parseTerm(0) = 1");
        at(46, "FULL if the text has 80 characters", "type " + LONG_RULE, "!appendCharacter(122) = FULL",
                "addRule() = 0",
                "appendCharacter(122) = 1");
        at(47, "Returns the length that the text had", "!clearText() = 0", "type s(", "clearText() = 2",
                "!clearText() = 0", "textLength() = 0", "type " + "s(".repeat(40), "clearText() = 80",
                "!clearText() = 0",
                "~parseTerm(0) = -100", "term 0 s(z) = 2");
        at(48, "Returns 0 to 80", "!textLength() = 0", "appendCharacter(122) = 1", "!textLength() = 1",
                "type " + "z".repeat(78), "!textLength() = 79", "appendCharacter(122) = 80", "!textLength() = 80",
                "!appendCharacter(122) = FULL", "!textLength() = 80", "~parseTerm(0) = -101", "!textLength() = 0");
    }

    private static void snapshots() {
        at(49, "An earlier snapshot is replaced", join(SIX_RULES, "term 0 f(z,z) = 3", "saveSnapshot() = 6",
                "removeRule(0) = 5", "term 0 s(z) = 2", "saveSnapshot() = 5", "removeRule(0) = 4",
                "restoreSnapshot() = 5",
                "loadLeft(0, 1) = 3", "shows 1 h(s(x))", "shows 0 s(z)", "!leftSize(5) = NO_SUCH_ELEMENT"));
        at(49, "An earlier snapshot is replaced", "rule h(x)>h(x) = 0", "saveSnapshot() = 1", "removeRule(0) = 0",
                "saveSnapshot() = 0", "rule h(x)>x = 0", "restoreSnapshot() = 0", "ruleCount() = 0", "pairCount() = 0",
                "setArity(0, 3) = 2");
        at(49, "Returns the number of rules", join(join(new String[] {"saveSnapshot() = 0"}, SIX_RULES),
                "saveSnapshot() = 6", "type h(x)>x", "saveSnapshot() = 6", "!addRule() = FULL", "removeRule(0) = 5",
                "saveSnapshot() = 5", "textLength() = 6"));
        at(50, "The snapshot is kept, and the text buffer does not change", "rule h(x)>x = 0", "saveSnapshot() = 1",
                "term 0 s(z) = 2", "type s(", "restoreSnapshot() = 1", "shows 0 z", "textLength() = 2",
                "removeRule(0) = 0",
                "restoreSnapshot() = 1", "ruleCount() = 1", "!restoreSnapshot() = 1", "~parseTerm(0) = -102");
        at(50, "The snapshot is kept, and the text buffer does not change", "saveSnapshot() = 0", "type " + LONG_TERM,
                "!restoreSnapshot() = 0", "!appendCharacter(122) = FULL", "parseTerm(0) = 28");
        at(50, "Returns the number of rules", "setArity(0, 3) = 2", "term 3 f(x,y,w) = 4", "saveSnapshot() = 0",
                "setArity(0, 1) = 3", "rule f(x)>f(x) = 0", "pairCount() = 1", "closureSize() = 1",
                "restoreSnapshot() = 0", "pairCount() = 0", "closureSize() = 0", "shows 3 f(x,y,w)", "arity(0) = 3",
                "!pairRule(0) = NO_SUCH_ELEMENT");
        at(50, "Returns the number of rules", join(SIX_RULES, "saveSnapshot() = 6", "removeRule(0) = 5",
                "restoreSnapshot() = 6", "!removeRule(6) = NO_SUCH_ELEMENT", "pairCount() = 3",
                "componentCount() = 2", "type h(x)>x", "!addRule() = FULL"));
        at(50, "NOT_POSSIBLE if no snapshot was saved", "term 0 h(z) = 2", "rule h(x)>x = 0", "type s(",
                "!restoreSnapshot() = NOT_POSSIBLE", "!restoreSnapshot() = NOT_POSSIBLE", "saveSnapshot() = 1",
                "restoreSnapshot() = 1");
        at(50, "NOT_POSSIBLE if no snapshot was saved", "!restoreSnapshot() = NOT_POSSIBLE", "saveSnapshot() = 0",
                "!restoreSnapshot() = 0");
    }

    public static void main(String[] args) throws IOException {
        for (Method method : DependencyPairAnalyzer.class.getMethods()) {
            METHODS.put(method.getName(), method);
        }
        symbols();
        termsAndRules();
        rewritingAndGraphs();
        choices();
        textAndErrors();
        termsInWords();
        rewritingInWords();
        pairsInWords();
        sizeChangeInWords();
        subtermCriterionInWords();
        textInWords();
        newObjectAndArities();
        addRule();
        rulesAndSizes();
        pairs();
        graph();
        sizeChange();
        subtermCriterion();
        parseTerm();
        registers();
        redexes();
        rewriteAt();
        rewriteOutermost();
        findLoop();
        explorations();
        normalForms();
        text();
        snapshots();
        checkSentences();
        System.out.println(tests + " boundary tests, " + states + " states compared, at most " + mostCalls
                + " calls on one object");
        System.out.println(wrong == 0 ? "all answers are as due" : wrong + " faults");
        if (wrong != 0) {
            System.exit(1);
        }
    }
}
