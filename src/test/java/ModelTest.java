import java.lang.reflect.Method;
import java.util.ArrayList;
import java.util.Arrays;
import java.util.Comparator;
import java.util.HashMap;
import java.util.LinkedHashSet;
import java.util.List;
import java.util.Map;
import java.util.Random;
import java.util.Set;
import java.util.TreeSet;

/**
 * Random runs of calls, compared with a second program that follows the document's words: trees instead of rows,
 * sets instead of tables, everything computed anew at each call. The seeds are fixed, so each run is the same.
 */
public final class ModelTest {
    private static final int RUNS = 1500;
    private static final int CALLS = 512;

    // ---- The second program: terms ----

    private record Node(char symbol, List<Node> arguments) {
        int size() {
            int size = 1;
            for (Node argument : arguments) {
                size += argument.size();
            }
            return size;
        }

        String preorder() {
            StringBuilder symbols = new StringBuilder().append(symbol);
            for (Node argument : arguments) {
                symbols.append(argument.preorder());
            }
            return symbols.toString();
        }

        String written() {
            if (arguments.isEmpty()) {
                return String.valueOf(symbol);
            }
            List<String> parts = new ArrayList<>();
            for (Node argument : arguments) {
                parts.add(argument.written());
            }
            return symbol + "(" + String.join(",", parts) + ")";
        }

        List<Node> subterms() {
            List<Node> all = new ArrayList<>(List.of(this));
            for (Node argument : arguments) {
                all.addAll(argument.subterms());
            }
            return all;
        }

        Node replaced(int position, Node other) {
            if (position == 0) {
                return other;
            }
            List<Node> parts = new ArrayList<>();
            int start = 1;
            for (Node argument : arguments) {
                int size = argument.size();
                boolean inside = position >= start && position < start + size;
                parts.add(inside ? argument.replaced(position - start, other) : argument);
                start += size;
            }
            return new Node(symbol, parts);
        }

        boolean isVariable() {
            return "xyw".indexOf(symbol) >= 0;
        }

        boolean isFunction() {
            return "fgh".indexOf(symbol) >= 0;
        }
    }

    private static final Comparator<Node> ORDER = Comparator.comparingInt(Node::size).thenComparing(Node::preorder);
    private static final Node ZERO = new Node('z', List.of());

    private record Rule(Node left, Node right) {
    }

    private record Pair(int rule, int position, Node source, Node target) {
    }

    private record SizeChange(int from, int to, List<Integer> relations) {
    }

    private static final class SyntaxError extends Exception {
        private static final long serialVersionUID = 1L;
        private final int position;

        SyntaxError(int position) {
            this.position = position;
        }
    }

    // ---- The second program: its state and its answers ----

    private static final class Model {
        private int[] arities = {2, 2, 1};
        private List<Rule> rules = new ArrayList<>();
        private Node[] registers = {ZERO, ZERO, ZERO, ZERO};
        private String text = "";
        private int[] savedArities;
        private List<Rule> savedRules;
        private Node[] savedRegisters;
        private int cursor;

        private boolean noRegister(int register) {
            return register < 0 || register > 3;
        }

        private boolean noRule(int rule) {
            return rule < 0 || rule >= rules.size();
        }

        int setArity(int function, int arity) {
            if (function < 0 || function > 2) {
                return -1;
            }
            if (arity < 1 || arity > 3) {
                return -2;
            }
            if (!rules.isEmpty()) {
                return -3;
            }
            int old = arities[function];
            arities[function] = arity;
            for (int r = 0; r < 4; r++) {
                if (registers[r].preorder().indexOf("fgh".charAt(function)) >= 0) {
                    registers[r] = ZERO;
                }
            }
            return old;
        }

        int arity(int function) {
            return function < 0 || function > 2 ? -1 : arities[function];
        }

        private int arityOf(char symbol) {
            return switch (symbol) {
                case 's' -> 1;
                case 'c' -> 2;
                case 'f' -> arities[0];
                case 'g' -> arities[1];
                case 'h' -> arities[2];
                default -> 0;
            };
        }

        private void expect(char wanted) throws SyntaxError {
            if (cursor >= text.length() || text.charAt(cursor) != wanted) {
                throw new SyntaxError(cursor);
            }
            cursor++;
        }

        private Node term() throws SyntaxError {
            if (cursor >= text.length() || "xywzscfgh".indexOf(text.charAt(cursor)) < 0) {
                throw new SyntaxError(cursor);
            }
            char symbol = text.charAt(cursor++);
            List<Node> arguments = new ArrayList<>();
            for (int i = 0; i < arityOf(symbol); i++) {
                expect(i == 0 ? '(' : ',');
                arguments.add(term());
            }
            if (!arguments.isEmpty()) {
                expect(')');
            }
            return new Node(symbol, arguments);
        }

        private void end() throws SyntaxError {
            if (cursor < text.length()) {
                throw new SyntaxError(cursor);
            }
        }

        int addRule() {
            if (rules.size() == 6) {
                return -4;
            }
            cursor = 0;
            try {
                Node left = term();
                expect('>');
                Node right = term();
                end();
                if (!valid(left, right)) {
                    return -6;
                }
                rules.add(new Rule(left, right));
                return rules.size() - 1;
            } catch (SyntaxError error) {
                return -100 - error.position;
            } finally {
                text = "";
            }
        }

        private boolean valid(Node left, Node right) {
            boolean fits = left.size() <= 40 && right.size() <= 40;
            boolean rooted = left.isFunction() && left.subterms().stream().filter(Node::isFunction).count() == 1;
            boolean bound = right.subterms().stream().filter(Node::isVariable).allMatch(left.subterms()::contains);
            return fits && rooted && bound;
        }

        int removeRule(int rule) {
            if (noRule(rule)) {
                return -1;
            }
            rules.remove(rule);
            return rules.size();
        }

        int ruleCount() {
            return rules.size();
        }

        int leftSize(int rule) {
            return noRule(rule) ? -1 : rules.get(rule).left().size();
        }

        int rightSize(int rule) {
            return noRule(rule) ? -1 : rules.get(rule).right().size();
        }

        // ---- Pairs and graph ----

        private List<Pair> pairs() {
            List<Pair> pairs = new ArrayList<>();
            for (int r = 0; r < rules.size(); r++) {
                List<Node> subterms = rules.get(r).right().subterms();
                for (int p = 0; p < subterms.size(); p++) {
                    if (subterms.get(p).isFunction()) {
                        pairs.add(new Pair(r, p, rules.get(r).left(), subterms.get(p)));
                    }
                }
            }
            return pairs;
        }

        private boolean noPair(int pair) {
            return pair < 0 || pair >= pairs().size();
        }

        int pairCount() {
            return pairs().size();
        }

        int pairRule(int pair) {
            return noPair(pair) ? -1 : pairs().get(pair).rule();
        }

        int pairPosition(int pair) {
            return noPair(pair) ? -1 : pairs().get(pair).position();
        }

        int sourceFunction(int pair) {
            return noPair(pair) ? -1 : "fgh".indexOf(pairs().get(pair).source().symbol());
        }

        int targetFunction(int pair) {
            return noPair(pair) ? -1 : "fgh".indexOf(pairs().get(pair).target().symbol());
        }

        private static boolean compatible(Node t, Node u) {
            return t.isVariable() || u.isVariable() || t.isFunction() || sameRootCompatible(t, u);
        }

        private static boolean sameRootCompatible(Node t, Node u) {
            if (t.symbol() != u.symbol()) {
                return false;
            }
            for (int i = 0; i < t.arguments().size(); i++) {
                if (!compatible(t.arguments().get(i), u.arguments().get(i))) {
                    return false;
                }
            }
            return true;
        }

        private static boolean edge(Pair i, Pair j) {
            return sameRootCompatible(i.target(), j.source());
        }

        int hasEdge(int from, int to) {
            if (noPair(from) || noPair(to)) {
                return -1;
            }
            return edge(pairs().get(from), pairs().get(to)) ? 1 : 0;
        }

        int edgeCount() {
            int count = 0;
            List<Pair> pairs = pairs();
            for (Pair i : pairs) {
                for (Pair j : pairs) {
                    count += edge(i, j) ? 1 : 0;
                }
            }
            return count;
        }

        private static Set<Pair> reached(Pair start, List<Pair> pairs) {
            Set<Pair> reached = new LinkedHashSet<>();
            List<Pair> work = new ArrayList<>(List.of(start));
            while (!work.isEmpty()) {
                Pair from = work.remove(work.size() - 1);
                for (Pair to : pairs) {
                    if (edge(from, to) && reached.add(to)) {
                        work.add(to);
                    }
                }
            }
            return reached;
        }

        private static List<Set<Pair>> components(List<Pair> pairs) {
            Map<Pair, Set<Pair>> reach = new HashMap<>();
            for (Pair pair : pairs) {
                reach.put(pair, reached(pair, pairs));
            }
            Set<Set<Pair>> components = new LinkedHashSet<>();
            for (Pair pair : pairs) {
                Set<Pair> component = new LinkedHashSet<>();
                for (Pair other : reach.get(pair)) {
                    if (reach.get(other).contains(pair)) {
                        component.add(other);
                    }
                }
                if (!component.isEmpty()) {
                    components.add(component);
                }
            }
            return new ArrayList<>(components);
        }

        int componentCount() {
            return components(pairs()).size();
        }

        int componentOf(int pair) {
            if (noPair(pair)) {
                return -1;
            }
            List<Set<Pair>> components = components(pairs());
            for (int c = 0; c < components.size(); c++) {
                if (components.get(c).contains(pairs().get(pair))) {
                    return c;
                }
            }
            return -5;
        }

        // ---- Size change ----

        private static int relation(Pair pair, int from, int to) {
            Node source = pair.source().arguments().get(from);
            Node target = pair.target().arguments().get(to);
            if (source.equals(target)) {
                return 1;
            }
            return source.subterms().contains(target) ? 2 : 0;
        }

        int sizeRelation(int pair, int from, int to) {
            if (noPair(pair)) {
                return -1;
            }
            Pair p = pairs().get(pair);
            boolean noFrom = from < 0 || from >= p.source().arguments().size();
            boolean noTo = to < 0 || to >= p.target().arguments().size();
            return noFrom || noTo ? -1 : relation(p, from, to);
        }

        private SizeChange graphOf(Pair pair) {
            List<Integer> relations = new ArrayList<>();
            for (int a = 0; a < pair.source().arguments().size(); a++) {
                for (int b = 0; b < pair.target().arguments().size(); b++) {
                    relations.add(relation(pair, a, b));
                }
            }
            return new SizeChange(
                    "fgh".indexOf(pair.source().symbol()), "fgh".indexOf(pair.target().symbol()), relations);
        }

        private SizeChange composition(SizeChange g, SizeChange k) {
            List<Integer> relations = new ArrayList<>();
            int middles = arities[g.to()];
            int targets = arities[k.to()];
            for (int a = 0; a < arities[g.from()]; a++) {
                for (int b = 0; b < targets; b++) {
                    int best = 0;
                    for (int d = 0; d < middles; d++) {
                        int one = g.relations().get(a * middles + d);
                        int two = k.relations().get(d * targets + b);
                        best = Math.max(best, one * two == 0 ? 0 : one == 2 || two == 2 ? 2 : 1);
                    }
                    relations.add(best);
                }
            }
            return new SizeChange(g.from(), k.to(), relations);
        }

        /** Null if there are more than 400 graphs. */
        private Set<SizeChange> closure() {
            Set<SizeChange> closure = new LinkedHashSet<>();
            for (Pair pair : pairs()) {
                closure.add(graphOf(pair));
            }
            int before = -1;
            while (before != closure.size()) {
                before = closure.size();
                List<SizeChange> all = new ArrayList<>(closure);
                for (SizeChange g : all) {
                    for (SizeChange k : all) {
                        if (g.to() == k.from()) {
                            closure.add(composition(g, k));
                        }
                    }
                    if (closure.size() > 400) {
                        return null;
                    }
                }
            }
            return closure;
        }

        private List<SizeChange> idempotents(Set<SizeChange> closure) {
            List<SizeChange> found = new ArrayList<>();
            for (SizeChange g : closure) {
                if (g.from() == g.to() && composition(g, g).equals(g)) {
                    found.add(g);
                }
            }
            return found;
        }

        int closureSize() {
            Set<SizeChange> closure = closure();
            return closure == null ? -8 : closure.size();
        }

        int idempotentCount() {
            Set<SizeChange> closure = closure();
            return closure == null ? -8 : idempotents(closure).size();
        }

        int terminatesBySizeChange() {
            Set<SizeChange> closure = closure();
            if (closure == null) {
                return -8;
            }
            for (SizeChange g : idempotents(closure)) {
                boolean decreases = false;
                for (int a = 0; a < arities[g.from()]; a++) {
                    decreases |= g.relations().get(a * arities[g.from()] + a) == 2;
                }
                if (!decreases) {
                    return 0;
                }
            }
            return 1;
        }

        // ---- Subterm criterion ----

        private static int projected(Pair pair, int projection) {
            int[] digits = {projection / 100, projection / 10 % 10, projection % 10};
            int from = digits["fgh".indexOf(pair.source().symbol())] - 1;
            int to = digits["fgh".indexOf(pair.target().symbol())] - 1;
            return relation(pair, from, to);
        }

        private int lowestProjection(Set<Pair> component) {
            StringBuilder roots = new StringBuilder();
            for (Pair pair : component) {
                roots.append(pair.source().symbol()).append(pair.target().symbol());
            }
            for (int number = 111; number <= 333; number++) {
                String digits = String.valueOf(number);
                boolean possible = true;
                for (int f = 0; f < 3; f++) {
                    int digit = digits.charAt(f) - '0';
                    boolean used = roots.indexOf("fgh".substring(f, f + 1)) >= 0;
                    possible &= digit >= 1 && digit <= arities[f] && (used || digit == 1);
                }
                if (possible && valid(component, number)) {
                    return number;
                }
            }
            return -5;
        }

        private static boolean valid(Set<Pair> component, int projection) {
            int highest = 0;
            int lowest = 2;
            for (Pair pair : component) {
                highest = Math.max(highest, projected(pair, projection));
                lowest = Math.min(lowest, projected(pair, projection));
            }
            return lowest >= 1 && highest == 2;
        }

        int projection(int component) {
            List<Set<Pair>> components = components(pairs());
            boolean none = component < 0 || component >= components.size();
            return none ? -1 : lowestProjection(components.get(component));
        }

        /** The rounds that removed a pair, then the components at the end, then the pairs in them. */
        private int[] elimination() {
            List<Pair> remaining = pairs();
            int rounds = 0;
            while (true) {
                int before = remaining.size();
                List<Set<Pair>> components = components(remaining);
                for (Set<Pair> component : components) {
                    int projection = lowestProjection(component);
                    if (projection > 0) {
                        remaining.removeIf(p -> component.contains(p) && projected(p, projection) == 2);
                    }
                }
                if (remaining.size() == before) {
                    int members = components.stream().mapToInt(Set::size).sum();
                    return new int[] {rounds, components.size(), members};
                }
                rounds++;
            }
        }

        int eliminationRounds() {
            return elimination()[0];
        }

        int remainingPairCount() {
            return elimination()[2];
        }

        int remainingComponentCount() {
            return elimination()[1];
        }

        int terminatesBySubtermCriterion() {
            return elimination()[1] == 0 ? 1 : 0;
        }

        // ---- Registers ----

        int parseTerm(int register) {
            if (noRegister(register)) {
                return -1;
            }
            cursor = 0;
            try {
                Node term = term();
                end();
                if (term.size() > 40) {
                    return -6;
                }
                registers[register] = term;
                return term.size();
            } catch (SyntaxError error) {
                return -100 - error.position;
            } finally {
                text = "";
            }
        }

        int termSize(int register) {
            return noRegister(register) ? -1 : registers[register].size();
        }

        int formattedLength(int register) {
            return noRegister(register) ? -1 : registers[register].written().length();
        }

        int formattedCharacter(int register, int index) {
            boolean none = noRegister(register) || index < 0 || index >= registers[register].written().length();
            return none ? -1 : registers[register].written().charAt(index);
        }

        int compareTerms(int first, int second) {
            if (noRegister(first) || noRegister(second)) {
                return -1;
            }
            return Integer.signum(ORDER.compare(registers[first], registers[second])) + 1;
        }

        private int put(int register, Node term) {
            registers[register] = term;
            return term.size();
        }

        int copyTerm(int from, int to) {
            return noRegister(from) || noRegister(to) ? -1 : put(to, registers[from]);
        }

        int loadLeft(int rule, int register) {
            return noRule(rule) || noRegister(register) ? -1 : put(register, rules.get(rule).left());
        }

        int loadRight(int rule, int register) {
            return noRule(rule) || noRegister(register) ? -1 : put(register, rules.get(rule).right());
        }

        // ---- Rewriting ----

        private static boolean match(Node pattern, Node term, Map<Character, Node> substitution) {
            if (pattern.isVariable()) {
                Node bound = substitution.putIfAbsent(pattern.symbol(), term);
                return bound == null || bound.equals(term);
            }
            if (pattern.symbol() != term.symbol()) {
                return false;
            }
            for (int i = 0; i < pattern.arguments().size(); i++) {
                if (!match(pattern.arguments().get(i), term.arguments().get(i), substitution)) {
                    return false;
                }
            }
            return true;
        }

        private static Node instance(Node pattern, Map<Character, Node> substitution) {
            if (pattern.isVariable()) {
                return substitution.get(pattern.symbol());
            }
            List<Node> parts = new ArrayList<>();
            for (Node argument : pattern.arguments()) {
                parts.add(instance(argument, substitution));
            }
            return new Node(pattern.symbol(), parts);
        }

        private List<Integer> redexes(Node term) {
            List<Integer> redexes = new ArrayList<>();
            List<Node> subterms = term.subterms();
            for (int p = 0; p < subterms.size(); p++) {
                for (Rule rule : rules) {
                    if (match(rule.left(), subterms.get(p), new HashMap<>())) {
                        redexes.add(p);
                        break;
                    }
                }
            }
            return redexes;
        }

        /** Null if the step is impossible. */
        private Node step(Node term, int position) {
            Node subterm = term.subterms().get(position);
            for (Rule rule : rules) {
                Map<Character, Node> substitution = new HashMap<>();
                if (match(rule.left(), subterm, substitution)) {
                    Node result = term.replaced(position, instance(rule.right(), substitution));
                    return result.size() > 40 ? null : result;
                }
            }
            throw new IllegalStateException("no redex");
        }

        private boolean noPosition(int register, int position) {
            return noRegister(register) || position < 0 || position >= registers[register].size();
        }

        int matches(int rule, int register, int position) {
            if (noRule(rule) || noPosition(register, position)) {
                return -1;
            }
            Node subterm = registers[register].subterms().get(position);
            return match(rules.get(rule).left(), subterm, new HashMap<>()) ? 1 : 0;
        }

        int redexCount(int register) {
            return noRegister(register) ? -1 : redexes(registers[register]).size();
        }

        int redexAt(int register, int index) {
            if (noRegister(register) || index < 0) {
                return -1;
            }
            List<Integer> redexes = redexes(registers[register]);
            return index < redexes.size() ? redexes.get(index) : -5;
        }

        int rewriteAt(int register, int position) {
            if (noPosition(register, position)) {
                return -1;
            }
            if (!redexes(registers[register]).contains(position)) {
                return -5;
            }
            Node result = step(registers[register], position);
            return result == null ? -8 : put(register, result);
        }

        /** Null if the term is a normal form or the step is impossible. */
        private Node outermostStep(Node term) {
            List<Integer> redexes = redexes(term);
            return redexes.isEmpty() ? null : step(term, redexes.get(0));
        }

        int rewriteOutermost(int register, int limit) {
            if (noRegister(register)) {
                return -1;
            }
            if (limit < 0 || limit > 100) {
                return -2;
            }
            int steps = 0;
            while (steps < limit) {
                Node next = outermostStep(registers[register]);
                if (next == null) {
                    return steps;
                }
                registers[register] = next;
                steps++;
            }
            return steps;
        }

        int findLoop(int register, int limit) {
            if (noRegister(register)) {
                return -1;
            }
            if (limit < 1 || limit > 100) {
                return -2;
            }
            List<Node> sequence = new ArrayList<>(List.of(registers[register]));
            for (int steps = 1; steps <= limit; steps++) {
                Node next = outermostStep(sequence.get(steps - 1));
                if (next == null) {
                    return -5;
                }
                if (sequence.contains(next)) {
                    return steps;
                }
                sequence.add(next);
            }
            return -5;
        }

        // ---- Exploration ----

        private List<Node> exploration(int register, int limit) {
            TreeSet<Node> discovered = new TreeSet<>(ORDER);
            discovered.add(registers[register]);
            List<Node> expanded = new ArrayList<>();
            while (expanded.size() < limit) {
                Node lowest = null;
                for (Node term : discovered) {
                    if (!expanded.contains(term)) {
                        lowest = term;
                        break;
                    }
                }
                if (lowest == null) {
                    return expanded;
                }
                expanded.add(lowest);
                for (int redex : redexes(lowest)) {
                    Node result = step(lowest, redex);
                    if (result != null) {
                        discovered.add(result);
                    }
                }
            }
            return expanded;
        }

        private int refusal(int register, int limit) {
            if (noRegister(register)) {
                return -1;
            }
            return limit < 1 || limit > 30 ? -2 : 0;
        }

        private TreeSet<Node> normalForms(int register, int limit) {
            TreeSet<Node> normal = new TreeSet<>(ORDER);
            for (Node term : exploration(register, limit)) {
                if (redexes(term).isEmpty()) {
                    normal.add(term);
                }
            }
            return normal;
        }

        int exploredCount(int register, int limit) {
            int refusal = refusal(register, limit);
            return refusal < 0 ? refusal : exploration(register, limit).size();
        }

        int exploredNormalForms(int register, int limit) {
            int refusal = refusal(register, limit);
            return refusal < 0 ? refusal : normalForms(register, limit).size();
        }

        int lastExploredSize(int register, int limit) {
            int refusal = refusal(register, limit);
            if (refusal < 0) {
                return refusal;
            }
            List<Node> expanded = exploration(register, limit);
            return expanded.get(expanded.size() - 1).size();
        }

        int loadNormalForm(int register, int limit, int target) {
            if (noRegister(register) || noRegister(target)) {
                return -1;
            }
            int refusal = refusal(register, limit);
            if (refusal < 0) {
                return refusal;
            }
            TreeSet<Node> normal = normalForms(register, limit);
            return normal.isEmpty() ? -5 : put(target, normal.first());
        }

        int normalFormRegisterCount() {
            return (int) Arrays.stream(registers).filter(term -> redexes(term).isEmpty()).count();
        }

        // ---- Text and snapshot ----

        int appendCharacter(int character) {
            if (character < 32 || character > 126) {
                return -2;
            }
            if (text.length() == 80) {
                return -4;
            }
            text += (char) character;
            return text.length();
        }

        int clearText() {
            int length = text.length();
            text = "";
            return length;
        }

        int textLength() {
            return text.length();
        }

        int saveSnapshot() {
            savedArities = arities.clone();
            savedRules = new ArrayList<>(rules);
            savedRegisters = registers.clone();
            return rules.size();
        }

        int restoreSnapshot() {
            if (savedRules == null) {
                return -3;
            }
            arities = savedArities.clone();
            rules = new ArrayList<>(savedRules);
            registers = savedRegisters.clone();
            return rules.size();
        }
    }

    // ---- Random runs ----

    private static final class Run {
        private final Random random;
        private final DependencyPairAnalyzer analyzer = new DependencyPairAnalyzer();
        private final Model model = new Model();
        private final List<String> log = new ArrayList<>();
        // A lively run has more rules, whose left sides are flat: more redexes, edges and size-change graphs.
        private final boolean lively;
        private int calls = 0;

        Run(long seed) {
            random = new Random(seed);
            lively = random.nextInt(3) > 0;
        }

        private int call(String name, int... arguments) throws ReflectiveOperationException {
            Object[] boxed = new Object[arguments.length];
            Class<?>[] types = new Class<?>[arguments.length];
            for (int i = 0; i < arguments.length; i++) {
                boxed[i] = arguments[i];
                types[i] = int.class;
            }
            Method asked = DependencyPairAnalyzer.class.getMethod(name, types);
            Method due = Model.class.getDeclaredMethod(name, types);
            int got = (int) asked.invoke(analyzer, boxed);
            int want = (int) due.invoke(model, boxed);
            calls++;
            log.add(name + Arrays.toString(arguments) + "=" + want);
            ANSWERS.merge(name + " " + (want < 0 ? Math.max(want, -100) : Math.min(want, 9)), 1, Integer::sum);
            if (got != want) {
                throw new IllegalStateException(name + Arrays.toString(arguments) + " answered " + got
                        + ", due is " + want + ", behind " + log);
            }
            return got;
        }

        private String term(String leaves, String inner, int depth) {
            if (depth == 0 || random.nextInt(4) == 0) {
                return leaves.substring(random.nextInt(leaves.length())).substring(0, 1);
            }
            char symbol = inner.charAt(random.nextInt(inner.length()));
            return applied(symbol, leaves, inner, depth);
        }

        private String applied(char symbol, String leaves, String inner, int depth) {
            List<String> parts = new ArrayList<>();
            for (int i = 0; i < model.arityOf(symbol); i++) {
                parts.add(term(leaves, inner, depth - 1));
            }
            return symbol + "(" + String.join(",", parts) + ")";
        }

        private String rule() {
            String variables = "xyw".substring(0, 1 + random.nextInt(3));
            String left = applied("fgh".charAt(random.nextInt(3)), variables + variables + "z", "sc", 1 + random.nextInt(3));
            StringBuilder used = new StringBuilder("z");
            for (char variable : variables.toCharArray()) {
                if (left.indexOf(variable) >= 0 || random.nextInt(20) == 0) {
                    used.append(variable).append(variable);
                }
            }
            return left + ">" + term(used.toString(), random.nextBoolean() ? "scfgh" : "fgh", 1 + random.nextInt(4));
        }

        private String flatLeft(char function) {
            List<String> parts = new ArrayList<>();
            String[] shapes = {"x", "y", "w", "s(x)", "s(y)", "s(w)", "c(x,y)", "c(y,w)", "z", "x", "y", "w"};
            for (int i = 0; i < model.arityOf(function); i++) {
                String own = "xyw".substring(i, i + 1);
                parts.add(random.nextInt(3) > 0 ? own : one(shapes));
            }
            return function + "(" + String.join(",", parts) + ")";
        }

        private String livelyRule() {
            String left = flatLeft(random.nextInt(3) > 0 ? 'f' : random.nextBoolean() ? 'g' : 'h');
            StringBuilder used = new StringBuilder();
            for (char variable : "xyw".toCharArray()) {
                if (left.indexOf(variable) >= 0) {
                    used.append(variable).append(variable);
                }
            }
            String leaves = used.append("z").toString();
            char root = "fffghsc".charAt(random.nextInt(7));
            return left + ">" + applied(root, leaves, random.nextBoolean() ? "fghs" : "fghscf", 1 + random.nextInt(2));
        }

        private String spoiled(String text) {
            if (random.nextInt(10) > 0 || text.isEmpty()) {
                return text;
            }
            int at = random.nextInt(text.length());
            String alphabet = "xywzscfgh(),>k ";
            char other = alphabet.charAt(random.nextInt(alphabet.length()));
            return switch (random.nextInt(3)) {
                case 0 -> text.substring(0, at);
                case 1 -> text.substring(0, at) + other + text.substring(at);
                default -> text.substring(0, at) + other + text.substring(at + 1);
            };
        }

        private void type(String text) throws ReflectiveOperationException {
            for (char character : text.toCharArray()) {
                call("appendCharacter", character);
            }
        }

        private void addRule() throws ReflectiveOperationException {
            String rule = lively && random.nextInt(4) > 0 ? livelyRule() : rule();
            if (rule.length() <= 80) {
                type(spoiled(rule));
                call("addRule");
            }
        }

        /** Many small terms with functions side by side: many redexes, so that an exploration discovers a lot. */
        private String busyTerm() {
            String term = applied("fgh".charAt(random.nextInt(3)), "zzx", "shg", 1);
            for (int i = 0; i < 8; i++) {
                String other = applied("fghh".charAt(random.nextInt(4)), "zzx", "shg", 1 + random.nextInt(2));
                String joined = random.nextBoolean() ? "c(" + term + "," + other + ")" : "c(" + other + "," + term + ")";
                if (joined.length() <= 80) {
                    term = joined;
                }
            }
            return term;
        }

        private void parseTerm() throws ReflectiveOperationException {
            boolean busy = lively && random.nextBoolean();
            String term = busy ? busyTerm() : term(random.nextBoolean() ? "z" : "zxyw", lively ? "fghfghs" : "scfghfgh", 1 + random.nextInt(5));
            if (term.length() <= 80) {
                type(spoiled(term));
                int register = number(4);
                call("parseTerm", register);
                if (busy) {
                    askWhileBusy(register);
                }
            }
        }

        private void askWhileBusy(int register) throws ReflectiveOperationException {
            int limit = 1 + random.nextInt(30);
            for (String name : EXPLORE) {
                call(name, register, limit);
            }
            call("redexCount", register);
            call("redexAt", register, number(8));
            call("loadNormalForm", register, limit, number(4));
            call("rewriteAt", register, number(sizeOf(register)));
            call("findLoop", register, limit);
        }

        private int number(int bound) {
            return random.nextInt(30) == 0 ? (random.nextBoolean() ? -1 : bound) : random.nextInt(Math.max(bound, 1));
        }

        private int limit(int lowest, int highest) {
            return random.nextInt(12) == 0
                    ? (random.nextBoolean() ? lowest - 1 : highest + 1)
                    : lowest + random.nextInt(highest - lowest + 1);
        }

        private int sizeOf(int register) {
            return register < 0 || register > 3 ? 3 : model.registers[register].size();
        }

        private static final String[] PLAIN = {
            "ruleCount", "pairCount", "edgeCount", "componentCount", "closureSize", "idempotentCount",
            "terminatesBySizeChange", "eliminationRounds", "remainingPairCount", "remainingComponentCount",
            "terminatesBySubtermCriterion", "normalFormRegisterCount", "textLength"
        };
        private static final String[] BY_PAIR = {
            "pairRule", "pairPosition", "sourceFunction", "targetFunction", "componentOf"
        };
        private static final String[] BY_REGISTER = {"termSize", "formattedLength", "redexCount"};
        private static final String[] EXPLORE = {"exploredCount", "exploredNormalForms", "lastExploredSize"};

        private String one(String[] names) {
            return names[random.nextInt(names.length)];
        }

        private void ask() throws ReflectiveOperationException {
            int pairs = model.pairCount();
            int register = number(4);
            switch (random.nextInt(24)) {
                case 0, 1, 2 -> call(one(PLAIN));
                case 3, 4 -> call(one(BY_PAIR), number(pairs));
                case 5 -> call(one(BY_REGISTER), register);
                case 6 -> call(one(EXPLORE), register, limit(1, 30));
                case 7 -> call("hasEdge", number(pairs), number(pairs));
                case 8 -> call("sizeRelation", number(pairs), number(3), number(3));
                case 9 -> call("projection", number(model.componentCount()));
                case 10 -> call("formattedCharacter", register, number(sizeOf(register) * 3));
                case 11 -> call("compareTerms", number(4), number(4));
                case 12 -> call("copyTerm", number(4), number(4));
                case 13 -> call(random.nextBoolean() ? "loadLeft" : "loadRight", number(model.ruleCount()), register);
                case 14, 15 -> call("matches", number(model.ruleCount()), register, number(sizeOf(register)));
                case 16 -> call("redexAt", register, number(4));
                case 17 -> call("rewriteAt", register, random.nextBoolean() ? 0 : number(sizeOf(register)));
                case 18 -> call("rewriteOutermost", register, random.nextBoolean() ? limit(0, 100) : 1);
                case 19 -> call("findLoop", register, limit(1, 100));
                case 20 -> call("loadNormalForm", register, limit(1, 30), number(4));
                case 21 -> call(random.nextBoolean() ? "leftSize" : "rightSize", number(model.ruleCount()));
                case 22 -> call("arity", number(3));
                default -> change();
            }
        }

        private void change() throws ReflectiveOperationException {
            switch (random.nextInt(7)) {
                case 0 -> call("setArity", number(3), limit(1, 3));
                case 1 -> call("removeRule", number(model.ruleCount()));
                case 2 -> call("saveSnapshot");
                case 3 -> call("restoreSnapshot");
                case 4 -> call("appendCharacter", limit(32, 126));
                case 5 -> call("clearText");
                default -> call("appendCharacter", "fgh(,)>".charAt(random.nextInt(7)));
            }
        }

        // Systems that chance seldom finds: the arities, then rules. Two rounds of elimination, three rounds,
        // two normal forms, many terms to explore, and closures around the limit of 400 graphs.
        private static final String[][] SYSTEMS = {
            {"221", "f(z,y)>s(y)", "f(s(x),z)>f(x,s(z))", "f(s(x),s(y))>f(x,f(s(x),y))"},
            {"321", "f(s(x),y,w)>f(x,w,y)", "f(x,s(y),w)>f(x,y,s(w))", "f(x,y,s(w))>f(x,y,w)", "g(x,y)>g(y,x)"},
            {"221", "f(z,y)>z", "h(z)>z", "h(s(x))>x", "f(x,y)>s(h(y))", "g(x,x)>x", "g(x,y)>s(x)"},
            {"221", "f(x,x)>x", "h(x)>s(x)", "g(x,y)>f(h(x),h(y))", "f(x,y)>c(x,y)"},
            {"321", "f(x,y,w)>f(y,x,w)", "f(x,y,w)>f(y,w,x)", "f(x,y,w)>f(x,x,w)", "f(s(x),y,w)>f(x,y,w)"},
            {"331", "f(x,y,w)>g(y,x,w)", "g(x,y,w)>f(y,w,x)", "f(x,y,w)>f(x,x,w)", "g(s(x),y,w)>f(x,y,w)"},
            {"331", "f(x,y,w)>g(y,x,w)", "g(x,y,w)>f(y,w,x)", "g(c(x,y),x,y)>f(x,y,w)", "f(x,c(x,w),w)>f(x,x,w)",
                "f(s(x),y,x)>f(x,y,z)"},
            {"311", "f(x,c(x,w),w)>f(x,x,w)", "f(x,y,w)>f(y,w,x)", "f(c(x,y),x,y)>f(y,c(x,y),x)"},
        };

        private void addSystem(String[] arities) throws ReflectiveOperationException {
            for (int function = 0; function < 3; function++) {
                call("setArity", function, arities[0].charAt(function) - '0');
            }
            for (int i = 1; i < arities.length; i++) {
                if (random.nextInt(8) > 0) {
                    type(arities[i]);
                    call("addRule");
                }
            }
        }

        private void go() throws ReflectiveOperationException {
            int rules = lively ? 3 + random.nextInt(4) : 1;
            for (int function = 0; function < 3; function++) {
                if (random.nextBoolean()) {
                    call("setArity", function, lively ? 2 + random.nextInt(2) : 1 + random.nextInt(3));
                }
            }
            if (lively && random.nextBoolean()) {
                addSystem(SYSTEMS[random.nextInt(SYSTEMS.length)]);
            }
            while (calls < CALLS - 90) {
                int kind = random.nextInt(40);
                if (kind == 0 || model.ruleCount() < rules && random.nextInt(3) > 0) {
                    addRule();
                } else if (kind <= 2) {
                    parseTerm();
                } else {
                    ask();
                }
            }
        }
    }

    private static final Map<String, Integer> ANSWERS = new java.util.TreeMap<>();

    public static void main(String[] args) throws ReflectiveOperationException {
        int runs = args.length > 0 ? Integer.parseInt(args[0]) : RUNS;
        long first = args.length > 1 ? Long.parseLong(args[1]) : 1;
        int wrong = 0;
        for (long seed = first; seed < first + runs && wrong < 3; seed++) {
            try {
                new Run(seed).go();
            } catch (IllegalStateException difference) {
                wrong++;
                System.out.println("seed " + seed + ": " + difference.getMessage());
            }
        }
        if (args.length > 2) {
            ANSWERS.forEach((kind, times) -> System.out.println(kind + ": " + times));
        }
        System.out.println(wrong == 0 ? "all answers are as due" : wrong + " runs differ");
        if (wrong != 0) {
            System.exit(1);
        }
    }
}
