/**
 * A termination analyzer for small term rewriting systems, based on dependency pairs.
 *
 * <p>All rows are made with the object and used again: no call makes an object or an array.
 */
public final class DependencyPairAnalyzer {
    public static final int NO_SUCH_ELEMENT = -1;
    public static final int OUT_OF_RANGE = -2;
    public static final int NOT_POSSIBLE = -3;
    public static final int FULL = -4;
    public static final int NOT_FOUND = -5;
    public static final int INVALID = -6;
    public static final int TOO_LARGE = -8;

    private static final int SYNTAX_ERROR = -100;
    private static final int NO_SYMBOL = 0;
    private static final int NONE = -1;
    private static final int MAX_SYMBOLS = 40;
    private static final int MAX_RULES = 6;
    private static final int MAX_TEXT = 80;
    // Each symbol brings its letter, two brackets at most, and a comma at most.
    private static final int MAX_WRITTEN = 4 * MAX_SYMBOLS;
    private static final int MAX_GRAPHS = 400;
    private static final int MAX_STEPS = 100;
    private static final int MAX_EXPANDED = 30;
    private static final int MAX_ARITY = 3;
    private static final int FUNCTIONS = 3;
    private static final int FIRST_FUNCTION = 'f';
    private static final int VARIABLES = 3;
    private static final int SYMBOL_CODES = 128;
    private static final int REGISTERS = 4;
    private static final int MAX_PAIRS = MAX_RULES * MAX_SYMBOLS;
    private static final int FIRST_CHARACTER = 32;
    private static final int LAST_CHARACTER = 126;
    private static final int RELATION_BITS = 2;
    private static final int RELATION_MASK = 3;
    private static final int SOURCE_SHIFT = RELATION_BITS * MAX_ARITY * MAX_ARITY;
    private static final int TARGET_SHIFT = SOURCE_SHIFT + RELATION_BITS;

    private final RewriteSystem system = new RewriteSystem();
    private final RewriteSystem snapshot = new RewriteSystem();
    private boolean snapshotSaved;
    private final TextBuffer text = new TextBuffer(MAX_TEXT);
    private final TextBuffer written = new TextBuffer(MAX_WRITTEN);
    private final Rewriter rewriter = new Rewriter();
    private final Exploration exploration = new Exploration();
    private final Term scratch = new Term();
    private final PairTable pairs = new PairTable();
    private boolean pairsReady;
    private final Components components = new Components();
    private boolean componentsReady;
    private final Closure closure = new Closure();
    private boolean closureReady;
    private final Elimination elimination = new Elimination();
    private boolean eliminationReady;

    public DependencyPairAnalyzer() {
    }

    // Arities and rules.

    public int setArity(int function, int arity) {
        if (!isFunctionNumber(function)) {
            return NO_SUCH_ELEMENT;
        }
        if (arity < 1 || arity > MAX_ARITY) {
            return OUT_OF_RANGE;
        }
        if (system.rules > 0) {
            return NOT_POSSIBLE;
        }
        int previous = system.signature.ofFunction(function);
        system.signature.change(function, arity);
        system.resetRegistersWith(symbolOfFunction(function));
        return previous;
    }

    public int arity(int function) {
        return isFunctionNumber(function) ? system.signature.ofFunction(function) : NO_SUCH_ELEMENT;
    }

    public int addRule() {
        if (system.rules >= MAX_RULES) {
            return FULL;
        }
        // The free row is no part of the state until the rule is counted, so it may hold a refused rule.
        Term left = system.left(system.rules);
        Term right = system.right(system.rules);
        boolean read = text.readRule(system.signature, left, right);
        int errorPosition = text.position;
        text.empty();
        if (!read) {
            return SYNTAX_ERROR - errorPosition;
        }
        if (!isRule(left, right)) {
            return INVALID;
        }
        system.rules++;
        rulesChanged();
        return system.rules - 1;
    }

    public int removeRule(int rule) {
        if (!hasRule(rule)) {
            return NO_SUCH_ELEMENT;
        }
        system.dropRule(rule);
        rulesChanged();
        return system.rules;
    }

    public int ruleCount() {
        return system.rules;
    }

    public int leftSize(int rule) {
        return hasRule(rule) ? system.left(rule).size : NO_SUCH_ELEMENT;
    }

    public int rightSize(int rule) {
        return hasRule(rule) ? system.right(rule).size : NO_SUCH_ELEMENT;
    }

    // Dependency pairs and their graph.

    public int pairCount() {
        return currentPairs().count;
    }

    public int pairRule(int pair) {
        return hasPair(pair) ? currentPairs().rule(pair) : NO_SUCH_ELEMENT;
    }

    public int pairPosition(int pair) {
        return hasPair(pair) ? currentPairs().position(pair) : NO_SUCH_ELEMENT;
    }

    public int sourceFunction(int pair) {
        return hasPair(pair) ? sourceOf(currentPairs().graph(pair)) : NO_SUCH_ELEMENT;
    }

    public int targetFunction(int pair) {
        return hasPair(pair) ? targetOf(currentPairs().graph(pair)) : NO_SUCH_ELEMENT;
    }

    public int hasEdge(int from, int to) {
        if (!hasPair(from) || !hasPair(to)) {
            return NO_SUCH_ELEMENT;
        }
        return currentPairs().edges.has(from, to) ? 1 : 0;
    }

    public int edgeCount() {
        return currentPairs().edges.total();
    }

    public int componentCount() {
        return currentComponents().count;
    }

    public int componentOf(int pair) {
        if (!hasPair(pair)) {
            return NO_SUCH_ELEMENT;
        }
        int component = currentComponents().number(pair);
        return component >= 0 ? component : NOT_FOUND;
    }

    // Size change and the subterm criterion.

    public int sizeRelation(int pair, int from, int to) {
        if (!hasPair(pair)) {
            return NO_SUCH_ELEMENT;
        }
        int graph = currentPairs().graph(pair);
        if (from < 0 || from >= system.signature.ofFunction(sourceOf(graph))) {
            return NO_SUCH_ELEMENT;
        }
        if (to < 0 || to >= system.signature.ofFunction(targetOf(graph))) {
            return NO_SUCH_ELEMENT;
        }
        return relationIn(graph, from, to);
    }

    public int closureSize() {
        Closure current = currentClosure();
        return current.tooLarge ? TOO_LARGE : current.count;
    }

    public int idempotentCount() {
        Closure current = currentClosure();
        return current.tooLarge ? TOO_LARGE : current.idempotents;
    }

    public int terminatesBySizeChange() {
        Closure current = currentClosure();
        if (current.tooLarge) {
            return TOO_LARGE;
        }
        return current.idempotents == current.decreasing ? 1 : 0;
    }

    public int projection(int component) {
        Components current = currentComponents();
        if (component < 0 || component >= current.count) {
            return NO_SUCH_ELEMENT;
        }
        boolean found = elimination.findProjection(currentPairs(), current, component, system.signature);
        return found ? elimination.projectionNumber() : NOT_FOUND;
    }

    public int eliminationRounds() {
        return currentElimination().rounds;
    }

    public int remainingPairCount() {
        return currentElimination().remainder.members;
    }

    public int remainingComponentCount() {
        return currentElimination().remainder.count;
    }

    public int terminatesBySubtermCriterion() {
        return currentElimination().remainder.count == 0 ? 1 : 0;
    }

    // Registers.

    public int parseTerm(int register) {
        if (!hasRegister(register)) {
            return NO_SUCH_ELEMENT;
        }
        boolean read = text.readWholeTerm(system.signature, scratch);
        int errorPosition = text.position;
        text.empty();
        if (!read) {
            return SYNTAX_ERROR - errorPosition;
        }
        if (scratch.size > MAX_SYMBOLS) {
            return INVALID;
        }
        return store(scratch, register);
    }

    public int termSize(int register) {
        return hasRegister(register) ? system.register(register).size : NO_SUCH_ELEMENT;
    }

    public int formattedLength(int register) {
        if (!hasRegister(register)) {
            return NO_SUCH_ELEMENT;
        }
        written.write(system.signature, system.register(register));
        return written.length;
    }

    public int formattedCharacter(int register, int index) {
        if (!hasRegister(register)) {
            return NO_SUCH_ELEMENT;
        }
        written.write(system.signature, system.register(register));
        return index >= 0 && index < written.length ? written.character(index) : NO_SUCH_ELEMENT;
    }

    public int compareTerms(int first, int second) {
        if (!hasRegister(first) || !hasRegister(second)) {
            return NO_SUCH_ELEMENT;
        }
        int order = system.register(first).orderAgainst(system.register(second));
        if (order == 0) {
            return 1;
        }
        return order < 0 ? 0 : 2;
    }

    public int copyTerm(int from, int to) {
        if (!hasRegister(from) || !hasRegister(to)) {
            return NO_SUCH_ELEMENT;
        }
        return store(system.register(from), to);
    }

    public int loadLeft(int rule, int register) {
        if (!hasRule(rule) || !hasRegister(register)) {
            return NO_SUCH_ELEMENT;
        }
        return store(system.left(rule), register);
    }

    public int loadRight(int rule, int register) {
        if (!hasRule(rule) || !hasRegister(register)) {
            return NO_SUCH_ELEMENT;
        }
        return store(system.right(rule), register);
    }

    // Rewriting.

    public int matches(int rule, int register, int position) {
        if (!hasRule(rule) || !hasPosition(register, position)) {
            return NO_SUCH_ELEMENT;
        }
        return rewriter.ruleFits(system, rule, system.register(register), position) ? 1 : 0;
    }

    public int redexCount(int register) {
        return hasRegister(register) ? rewriter.countRedexes(system, system.register(register)) : NO_SUCH_ELEMENT;
    }

    public int redexAt(int register, int index) {
        if (!hasRegister(register) || index < 0) {
            return NO_SUCH_ELEMENT;
        }
        int position = rewriter.findRedex(system, system.register(register), index);
        return position >= 0 ? position : NOT_FOUND;
    }

    public int rewriteAt(int register, int position) {
        if (!hasPosition(register, position)) {
            return NO_SUCH_ELEMENT;
        }
        int answer = rewriter.step(system, system.register(register), position, scratch);
        return answer < 0 ? answer : store(scratch, register);
    }

    public int rewriteOutermost(int register, int limit) {
        if (!hasRegister(register)) {
            return NO_SUCH_ELEMENT;
        }
        if (limit < 0 || limit > MAX_STEPS) {
            return OUT_OF_RANGE;
        }
        return rewriter.stepsOutermost(system, system.register(register), limit, scratch);
    }

    public int findLoop(int register, int limit) {
        if (!hasRegister(register)) {
            return NO_SUCH_ELEMENT;
        }
        if (limit < 1 || limit > MAX_STEPS) {
            return OUT_OF_RANGE;
        }
        return rewriter.stepsToRepetition(system, system.register(register), limit);
    }

    // Exploration.

    public int exploredCount(int register, int limit) {
        int refusal = exploration.run(system, rewriter, register, limit);
        return refusal < 0 ? refusal : exploration.expansions;
    }

    public int exploredNormalForms(int register, int limit) {
        int refusal = exploration.run(system, rewriter, register, limit);
        return refusal < 0 ? refusal : exploration.normalForms;
    }

    public int lastExploredSize(int register, int limit) {
        int refusal = exploration.run(system, rewriter, register, limit);
        return refusal < 0 ? refusal : exploration.current.size;
    }

    public int loadNormalForm(int register, int limit, int target) {
        if (!hasRegister(target)) {
            return NO_SUCH_ELEMENT;
        }
        int refusal = exploration.run(system, rewriter, register, limit);
        if (refusal < 0) {
            return refusal;
        }
        return exploration.normalForms > 0 ? store(exploration.lowestNormalForm, target) : NOT_FOUND;
    }

    public int normalFormRegisterCount() {
        int normal = 0;
        for (int register = 0; register < REGISTERS; register++) {
            if (rewriter.findRedex(system, system.register(register), 0) < 0) {
                normal++;
            }
        }
        return normal;
    }

    // Text.

    public int appendCharacter(int character) {
        if (character < FIRST_CHARACTER || character > LAST_CHARACTER) {
            return OUT_OF_RANGE;
        }
        return text.append(character) ? text.length : FULL;
    }

    public int clearText() {
        int previous = text.length;
        text.empty();
        return previous;
    }

    public int textLength() {
        return text.length;
    }

    // Snapshot.

    public int saveSnapshot() {
        snapshot.copyFrom(system);
        snapshotSaved = true;
        return system.rules;
    }

    public int restoreSnapshot() {
        if (!snapshotSaved) {
            return NOT_POSSIBLE;
        }
        system.copyFrom(snapshot);
        rulesChanged();
        return system.rules;
    }

    // What the public methods share.

    private boolean hasRule(int rule) {
        return rule >= 0 && rule < system.rules;
    }

    private boolean hasPair(int pair) {
        return pair >= 0 && pair < currentPairs().count;
    }

    private boolean hasPosition(int register, int position) {
        return hasRegister(register) && position >= 0 && position < system.register(register).size;
    }

    private static boolean hasRegister(int register) {
        return register >= 0 && register < REGISTERS;
    }

    private int store(Term term, int register) {
        system.register(register).copyFrom(term);
        return term.size;
    }

    private void rulesChanged() {
        pairsReady = false;
        componentsReady = false;
        closureReady = false;
        eliminationReady = false;
    }

    private PairTable currentPairs() {
        if (!pairsReady) {
            pairs.rebuild(system);
            pairsReady = true;
        }
        return pairs;
    }

    private Components currentComponents() {
        if (!componentsReady) {
            PairTable current = currentPairs();
            components.reset(current);
            components.rebuild(current);
            componentsReady = true;
        }
        return components;
    }

    private Closure currentClosure() {
        if (!closureReady) {
            closure.rebuild(currentPairs());
            closureReady = true;
        }
        return closure;
    }

    private Elimination currentElimination() {
        if (!eliminationReady) {
            elimination.run(currentPairs(), system.signature);
            eliminationReady = true;
        }
        return elimination;
    }

    // Conditions for rules.

    private static boolean isRule(Term left, Term right) {
        return left.size <= MAX_SYMBOLS && right.size <= MAX_SYMBOLS && isLeftSide(left) && bindsVariables(left, right);
    }

    private static boolean isLeftSide(Term left) {
        if (!isFunction(left.symbolAt(0))) {
            return false;
        }
        for (int position = 1; position < left.size; position++) {
            if (isFunction(left.symbolAt(position))) {
                return false;
            }
        }
        return true;
    }

    private static boolean bindsVariables(Term left, Term right) {
        for (int position = 0; position < right.size; position++) {
            int symbol = right.symbolAt(position);
            if (isVariable(symbol) && !left.contains(symbol)) {
                return false;
            }
        }
        return true;
    }

    // Symbols are their character codes.

    private static boolean isFunctionNumber(int function) {
        return function >= 0 && function < FUNCTIONS;
    }

    // The letters of the functions follow each other, as their numbers do.

    private static int functionOfSymbol(int symbol) {
        return symbol >= FIRST_FUNCTION && symbol < FIRST_FUNCTION + FUNCTIONS ? symbol - FIRST_FUNCTION : NONE;
    }

    private static int symbolOfFunction(int function) {
        return FIRST_FUNCTION + function;
    }

    private static int variableNumber(int symbol) {
        switch (symbol) {
            case 'x':
                return 0;
            case 'y':
                return 1;
            case 'w':
                return 2;
            default:
                return NONE;
        }
    }

    private static boolean isFunction(int symbol) {
        return functionOfSymbol(symbol) >= 0;
    }

    private static boolean isVariable(int symbol) {
        return variableNumber(symbol) >= 0;
    }

    private static boolean isSymbol(int symbol) {
        return isFunction(symbol) || isVariable(symbol) || symbol == 'z' || symbol == 's' || symbol == 'c';
    }

    // A size-change graph is one number, so that equal graphs are equal numbers: two bits for each relation
    // (0 behind the arity of a function), then two bits each for the source and the target.

    private static int emptyGraph(int source, int target) {
        return (source << SOURCE_SHIFT) | (target << TARGET_SHIFT);
    }

    private static int withRelation(int graph, int from, int to, int relation) {
        return graph | (relation << (RELATION_BITS * (MAX_ARITY * from + to)));
    }

    private static int relationIn(int graph, int from, int to) {
        return (graph >> (RELATION_BITS * (MAX_ARITY * from + to))) & RELATION_MASK;
    }

    private static int sourceOf(int graph) {
        return (graph >> SOURCE_SHIFT) & RELATION_MASK;
    }

    private static int targetOf(int graph) {
        return (graph >> TARGET_SHIFT) & RELATION_MASK;
    }

    private static int composed(int first, int second) {
        int graph = emptyGraph(sourceOf(first), targetOf(second));
        for (int from = 0; from < MAX_ARITY; from++) {
            for (int to = 0; to < MAX_ARITY; to++) {
                int best = 0;
                for (int middle = 0; middle < MAX_ARITY; middle++) {
                    best = Math.max(best, chained(relationIn(first, from, middle), relationIn(second, middle, to)));
                }
                graph = withRelation(graph, from, to, best);
            }
        }
        return graph;
    }

    private static int chained(int first, int second) {
        return first == 0 || second == 0 ? 0 : Math.max(first, second);
    }

    /** A term as its symbols in preorder; a new one is z. */
    private static final class Term {
        private final int[] symbols = new int[MAX_SYMBOLS];
        private int size;

        Term() {
            symbols[0] = 'z';
            size = 1;
        }

        void empty() {
            size = 0;
        }

        void becomeZero() {
            size = 0;
            append('z');
        }

        /** Symbols beyond the limit are counted but not kept, so that size tells that a term is too large. */
        void append(int symbol) {
            if (size >= 0 && size < symbols.length) {
                symbols[size] = symbol;
            }
            size++;
        }

        void appendRange(Term other, int from, int to) {
            for (int position = from; position < to; position++) {
                append(other.symbolAt(position));
            }
        }

        int symbolAt(int position) {
            return position >= 0 && position < size && position < symbols.length ? symbols[position] : NO_SYMBOL;
        }

        boolean contains(int symbol) {
            for (int position = 0; position < size; position++) {
                if (symbolAt(position) == symbol) {
                    return true;
                }
            }
            return false;
        }

        void copyFrom(Term other) {
            System.arraycopy(other.symbols, 0, symbols, 0, symbols.length);
            size = other.size;
        }

        /** Negative, zero or positive, as this term is lower than, equal to or higher than the other one. */
        int orderAgainst(Term other) {
            if (size != other.size) {
                return Integer.compare(size, other.size);
            }
            for (int position = 0; position < size; position++) {
                int order = Integer.compare(symbolAt(position), other.symbolAt(position));
                if (order != 0) {
                    return order;
                }
            }
            return 0;
        }
    }

    /** The arities, and with them the extent of subterms. */
    private static final class Signature {
        private final int[] arities = new int[SYMBOL_CODES];

        Signature() {
            arities['s'] = 1;
            arities['c'] = 2;
            arities['f'] = 2;
            arities['g'] = 2;
            arities['h'] = 1;
        }

        int ofSymbol(int symbol) {
            return symbol >= 0 && symbol < arities.length ? arities[symbol] : 0;
        }

        int ofFunction(int function) {
            return function >= 0 && function < FUNCTIONS ? arities[FIRST_FUNCTION + function] : 0;
        }

        void change(int function, int newArity) {
            if (function >= 0 && function < FUNCTIONS) {
                arities[FIRST_FUNCTION + function] = newArity;
            }
        }

        void copyFrom(Signature other) {
            System.arraycopy(other.arities, 0, arities, 0, arities.length);
        }

        /** The position behind the subterm at a position. */
        int endOf(Term term, int position) {
            int missing = 1;
            int end = position;
            while (end < term.size && missing > 0) {
                missing += ofSymbol(term.symbolAt(end)) - 1;
                end++;
            }
            return end;
        }

        /** The position of an argument of the subterm at a position. */
        int argumentOf(Term term, int position, int argument) {
            int start = position + 1;
            for (int skipped = 0; skipped < argument; skipped++) {
                start = endOf(term, start);
            }
            return start;
        }

        boolean sameSubterms(Term first, int firstPosition, Term second, int secondPosition) {
            int missing = 1;
            int offset = 0;
            while (firstPosition + offset < first.size && missing > 0) {
                int symbol = first.symbolAt(firstPosition + offset);
                if (symbol != second.symbolAt(secondPosition + offset)) {
                    return false;
                }
                missing += ofSymbol(symbol) - 1;
                offset++;
            }
            return true;
        }
    }

    /** What a snapshot saves: the arities, the rules and the registers. */
    private static final class RewriteSystem {
        private final Signature signature = new Signature();
        private final Term[] lefts = new Term[MAX_RULES];
        private final Term[] rights = new Term[MAX_RULES];
        private final Term[] registers = new Term[REGISTERS];
        private final Term nothing = new Term();
        private int rules;

        RewriteSystem() {
            for (int rule = 0; rule < MAX_RULES; rule++) {
                lefts[rule] = new Term();
                rights[rule] = new Term();
            }
            for (int register = 0; register < REGISTERS; register++) {
                registers[register] = new Term();
            }
        }

        Term left(int rule) {
            return rule >= 0 && rule < lefts.length ? lefts[rule] : nothing;
        }

        Term right(int rule) {
            return rule >= 0 && rule < rights.length ? rights[rule] : nothing;
        }

        Term register(int register) {
            return register >= 0 && register < registers.length ? registers[register] : nothing;
        }

        void dropRule(int rule) {
            for (int later = rule + 1; later < rules; later++) {
                left(later - 1).copyFrom(left(later));
                right(later - 1).copyFrom(right(later));
            }
            rules--;
        }

        void resetRegistersWith(int symbol) {
            for (int register = 0; register < REGISTERS; register++) {
                if (register(register).contains(symbol)) {
                    register(register).becomeZero();
                }
            }
        }

        void copyFrom(RewriteSystem other) {
            signature.copyFrom(other.signature);
            rules = other.rules;
            for (int rule = 0; rule < MAX_RULES; rule++) {
                left(rule).copyFrom(other.left(rule));
                right(rule).copyFrom(other.right(rule));
            }
            for (int register = 0; register < REGISTERS; register++) {
                register(register).copyFrom(other.register(register));
            }
        }
    }

    /** A text of limited length; after a reader's refusal, position is the error position. */
    private static final class TextBuffer {
        private final int[] characters;
        // How many arguments each open symbol still lacks.
        private final int[] missing;
        private int length;
        private int position;

        TextBuffer(int capacity) {
            int rows = Math.max(capacity, 0);
            characters = new int[rows];
            missing = new int[rows];
        }

        int character(int index) {
            return index >= 0 && index < length && index < characters.length ? characters[index] : NO_SYMBOL;
        }

        boolean append(int character) {
            if (length < 0 || length >= characters.length) {
                return false;
            }
            characters[length] = character;
            length++;
            return true;
        }

        void empty() {
            length = 0;
        }

        boolean readWholeTerm(Signature signature, Term term) {
            position = 0;
            return readTerm(signature, term) && position == length;
        }

        boolean readRule(Signature signature, Term left, Term right) {
            position = 0;
            return readTerm(signature, left) && take('>') && readTerm(signature, right) && position == length;
        }

        private boolean take(int character) {
            if (character(position) != character) {
                return false;
            }
            position++;
            return true;
        }

        private boolean readTerm(Signature signature, Term term) {
            int depth = 0;
            term.empty();
            for (int symbols = 0; symbols <= length; symbols++) {
                int symbol = character(position);
                if (!isSymbol(symbol)) {
                    return false;
                }
                position++;
                term.append(symbol);
                int expected = signature.ofSymbol(symbol);
                if (expected > 0) {
                    if (!take('(') || depth >= missing.length) {
                        return false;
                    }
                    missing[depth] = expected;
                    depth++;
                } else {
                    depth = readBehindArgument(depth);
                    if (depth <= 0) {
                        return depth == 0;
                    }
                }
            }
            return false;
        }

        /** Reads what follows a complete argument; the number of symbols still open, or NONE. */
        private int readBehindArgument(int depth) {
            for (int level = Math.min(depth, missing.length) - 1; level >= 0; level--) {
                missing[level]--;
                if (missing[level] > 0) {
                    return take(',') ? level + 1 : NONE;
                }
                if (!take(')')) {
                    return NONE;
                }
            }
            return 0;
        }

        void write(Signature signature, Term term) {
            int depth = 0;
            length = 0;
            for (int at = 0; at < term.size; at++) {
                int symbol = term.symbolAt(at);
                int expected = signature.ofSymbol(symbol);
                append(symbol);
                if (expected > 0 && depth < missing.length) {
                    append('(');
                    missing[depth] = expected;
                    depth++;
                } else {
                    depth = writeBehindArgument(depth);
                }
            }
        }

        private int writeBehindArgument(int depth) {
            for (int level = Math.min(depth, missing.length) - 1; level >= 0; level--) {
                missing[level]--;
                if (missing[level] > 0) {
                    append(',');
                    return level + 1;
                }
                append(')');
            }
            return 0;
        }
    }

    /** Matching and rewrite steps with the rules of a system. */
    private static final class Rewriter {
        private final int[] bindings = new int[VARIABLES];
        private final Term[] sequence = new Term[MAX_STEPS + 1];

        Rewriter() {
            for (int step = 0; step <= MAX_STEPS; step++) {
                sequence[step] = new Term();
            }
        }

        /** Whether a rule matches at a position; if so, each variable is bound to where its term begins. */
        boolean ruleFits(RewriteSystem system, int rule, Term term, int position) {
            Term pattern = system.left(rule);
            int at = position;
            unbind();
            for (int part = 0; part < pattern.size; part++) {
                int symbol = pattern.symbolAt(part);
                int variable = variableNumber(symbol);
                if (variable >= 0 && variable < bindings.length) {
                    int bound = bindings[variable];
                    if (bound >= 0 && !system.signature.sameSubterms(term, bound, term, at)) {
                        return false;
                    }
                    bindings[variable] = at;
                    at = system.signature.endOf(term, at);
                } else if (term.symbolAt(at) == symbol) {
                    at++;
                } else {
                    return false;
                }
            }
            return true;
        }

        private void unbind() {
            for (int variable = 0; variable < bindings.length; variable++) {
                bindings[variable] = NONE;
            }
        }

        private int bindingOf(int variable) {
            return variable >= 0 && variable < bindings.length ? bindings[variable] : NONE;
        }

        private int lowestRuleAt(RewriteSystem system, Term term, int position) {
            for (int rule = 0; rule < system.rules; rule++) {
                if (ruleFits(system, rule, term, position)) {
                    return rule;
                }
            }
            return NONE;
        }

        int countRedexes(RewriteSystem system, Term term) {
            int redexes = 0;
            for (int position = 0; position < term.size; position++) {
                if (lowestRuleAt(system, term, position) >= 0) {
                    redexes++;
                }
            }
            return redexes;
        }

        /** The position of the redex with a number, or NONE. */
        int findRedex(RewriteSystem system, Term term, int index) {
            int lower = 0;
            for (int position = 0; position < term.size; position++) {
                if (lowestRuleAt(system, term, position) >= 0) {
                    if (lower == index) {
                        return position;
                    }
                    lower++;
                }
            }
            return NONE;
        }

        /** Puts the result of a step in another term: its size, NOT_FOUND without a redex, or TOO_LARGE. */
        int step(RewriteSystem system, Term term, int position, Term result) {
            int rule = lowestRuleAt(system, term, position);
            if (rule < 0) {
                return NOT_FOUND;
            }
            result.empty();
            result.appendRange(term, 0, position);
            Term right = system.right(rule);
            for (int part = 0; part < right.size; part++) {
                int symbol = right.symbolAt(part);
                if (isVariable(symbol)) {
                    int start = bindingOf(variableNumber(symbol));
                    result.appendRange(term, start, system.signature.endOf(term, start));
                } else {
                    result.append(symbol);
                }
            }
            result.appendRange(term, system.signature.endOf(term, position), term.size);
            return result.size <= MAX_SYMBOLS ? result.size : TOO_LARGE;
        }

        int stepsOutermost(RewriteSystem system, Term term, int limit, Term result) {
            for (int steps = 0; steps < limit; steps++) {
                int outermost = findRedex(system, term, 0);
                if (outermost < 0 || step(system, term, outermost, result) < 0) {
                    return steps;
                }
                term.copyFrom(result);
            }
            return limit;
        }

        int stepsToRepetition(RewriteSystem system, Term start, int limit) {
            sequence[0].copyFrom(start);
            for (int steps = 1; steps <= limit && steps < sequence.length; steps++) {
                Term before = sequence[steps - 1];
                int outermost = findRedex(system, before, 0);
                if (outermost < 0 || step(system, before, outermost, sequence[steps]) < 0) {
                    return NOT_FOUND;
                }
                if (repeatsEarlier(steps)) {
                    return steps;
                }
            }
            return NOT_FOUND;
        }

        private boolean repeatsEarlier(int last) {
            for (int earlier = 0; earlier < last && last < sequence.length; earlier++) {
                if (sequence[earlier].orderAgainst(sequence[last]) == 0) {
                    return true;
                }
            }
            return false;
        }
    }

    /** Expands terms, the lowest first. */
    private static final class Exploration {
        // Below a term that is dropped stand 30 others. They would all be expanded first, so the dropped term
        // would not be expanded within the limit, nor a second time if it was expanded and is discovered again.
        private static final int KEPT = MAX_EXPANDED;

        private final Term[] found = new Term[KEPT + 1];
        private final boolean[] expanded = new boolean[KEPT + 1];
        private final Term result = new Term();
        private final Term current = new Term();
        private final Term lowestNormalForm = new Term();
        private int count;
        private int expansions;
        private int normalForms;

        Exploration() {
            for (int row = 0; row <= KEPT; row++) {
                found[row] = new Term();
            }
        }

        /** Explores from a register: 0, or the error code without an exploration. */
        int run(RewriteSystem system, Rewriter rewriter, int register, int limit) {
            if (!hasRegister(register)) {
                return NO_SUCH_ELEMENT;
            }
            if (limit < 1 || limit > MAX_EXPANDED) {
                return OUT_OF_RANGE;
            }
            count = 0;
            expansions = 0;
            normalForms = 0;
            discover(system.register(register));
            for (int round = 0; round < limit && takeLowest(); round++) {
                expansions++;
                expandCurrent(system, rewriter);
            }
            return 0;
        }

        /** Makes the lowest term that was not expanded the current one, if there is one. */
        private boolean takeLowest() {
            for (int row = 0; row < count && row < KEPT; row++) {
                if (!expanded[row]) {
                    expanded[row] = true;
                    current.copyFrom(found[row]);
                    return true;
                }
            }
            return false;
        }

        private void expandCurrent(RewriteSystem system, Rewriter rewriter) {
            boolean normal = true;
            for (int position = 0; position < current.size; position++) {
                int answer = rewriter.step(system, current, position, result);
                if (answer != NOT_FOUND) {
                    normal = false;
                }
                if (answer >= 0) {
                    discover(result);
                }
            }
            if (normal) {
                noteNormalForm();
            }
        }

        private void noteNormalForm() {
            if (normalForms == 0 || current.orderAgainst(lowestNormalForm) < 0) {
                lowestNormalForm.copyFrom(current);
            }
            normalForms++;
        }

        private void discover(Term term) {
            for (int row = 0; row < count && row < KEPT; row++) {
                int order = term.orderAgainst(found[row]);
                if (order == 0) {
                    return;
                }
                if (order < 0) {
                    insert(term, row);
                    return;
                }
            }
            if (count < KEPT) {
                insert(term, count);
            }
        }

        /** The row behind the last one is spare: it becomes the new one, or takes the one that is dropped. */
        private void insert(Term term, int place) {
            int last = Math.min(count, KEPT);
            Term spare = found[last];
            for (int row = last; row > place; row--) {
                found[row] = found[row - 1];
                expanded[row] = expanded[row - 1];
            }
            spare.copyFrom(term);
            found[place] = spare;
            expanded[place] = false;
            count = Math.min(count + 1, KEPT);
        }
    }

    /** A directed graph over pairs. */
    private static final class PairGraph {
        private static final int WORD_BITS = 64;
        private static final int WORDS = (MAX_PAIRS + WORD_BITS - 1) / WORD_BITS;

        private final long[] rows = new long[MAX_PAIRS * WORDS];

        private static boolean covers(int from, int to) {
            return from >= 0 && from < MAX_PAIRS && to >= 0 && to < MAX_PAIRS;
        }

        void empty() {
            for (int word = 0; word < rows.length; word++) {
                rows[word] = 0;
            }
        }

        void copyFrom(PairGraph other) {
            System.arraycopy(other.rows, 0, rows, 0, rows.length);
        }

        void connect(int from, int to) {
            if (covers(from, to)) {
                rows[from * WORDS + to / WORD_BITS] |= 1L << (to % WORD_BITS);
            }
        }

        boolean has(int from, int to) {
            return covers(from, to) && ((rows[from * WORDS + to / WORD_BITS] >> (to % WORD_BITS)) & 1L) != 0;
        }

        int total() {
            int total = 0;
            for (int word = 0; word < rows.length; word++) {
                total += Long.bitCount(rows[word]);
            }
            return total;
        }

        /** Adds an edge for each path through the pairs below count. */
        void addPaths(int count) {
            for (int middle = 0; middle < count; middle++) {
                for (int from = 0; from < count; from++) {
                    if (has(from, middle)) {
                        addRow(from, middle);
                    }
                }
            }
        }

        private void addRow(int to, int from) {
            if (covers(to, from)) {
                for (int word = 0; word < WORDS; word++) {
                    rows[to * WORDS + word] |= rows[from * WORDS + word];
                }
            }
        }

        void removeEdgesFrom(int pair) {
            if (covers(pair, pair)) {
                for (int word = 0; word < WORDS; word++) {
                    rows[pair * WORDS + word] = 0;
                }
            }
        }
    }

    /** The dependency pairs of a system, their size-change graphs and the dependency graph. */
    private static final class PairTable {
        private final int[] ruleOf = new int[MAX_PAIRS];
        private final int[] positionOf = new int[MAX_PAIRS];
        private final int[] graphOf = new int[MAX_PAIRS];
        private final PairGraph edges = new PairGraph();
        private int count;

        int rule(int pair) {
            return pair >= 0 && pair < ruleOf.length ? ruleOf[pair] : NONE;
        }

        int position(int pair) {
            return pair >= 0 && pair < positionOf.length ? positionOf[pair] : NONE;
        }

        int graph(int pair) {
            return pair >= 0 && pair < graphOf.length ? graphOf[pair] : 0;
        }

        void rebuild(RewriteSystem system) {
            count = 0;
            for (int rule = 0; rule < system.rules; rule++) {
                Term right = system.right(rule);
                for (int position = 0; position < right.size; position++) {
                    if (isFunction(right.symbolAt(position)) && count < MAX_PAIRS) {
                        ruleOf[count] = rule;
                        positionOf[count] = position;
                        graphOf[count] = sizeChange(system.signature, system.left(rule), right, position);
                        count++;
                    }
                }
            }
            connectPairs(system);
        }

        private static int sizeChange(Signature signature, Term left, Term right, int position) {
            int source = functionOfSymbol(left.symbolAt(0));
            int target = functionOfSymbol(right.symbolAt(position));
            int graph = emptyGraph(source, target);
            for (int from = 0; from < signature.ofFunction(source); from++) {
                int sourceArgument = signature.argumentOf(left, 0, from);
                for (int to = 0; to < signature.ofFunction(target); to++) {
                    int targetArgument = signature.argumentOf(right, position, to);
                    int relation = relationBetween(signature, left, sourceArgument, right, targetArgument);
                    graph = withRelation(graph, from, to, relation);
                }
            }
            return graph;
        }

        private static int relationBetween(Signature signature, Term left, int from, Term right, int to) {
            int end = signature.endOf(left, from);
            for (int part = from; part < end; part++) {
                if (signature.sameSubterms(left, part, right, to)) {
                    return part == from ? 1 : 2;
                }
            }
            return 0;
        }

        private void connectPairs(RewriteSystem system) {
            edges.empty();
            for (int from = 0; from < count; from++) {
                Term right = system.right(rule(from));
                for (int to = 0; to < count; to++) {
                    if (leadsTo(system.signature, right, position(from), system.left(rule(to)))) {
                        edges.connect(from, to);
                    }
                }
            }
        }

        private static boolean leadsTo(Signature signature, Term right, int position, Term left) {
            if (right.symbolAt(position) != left.symbolAt(0)) {
                return false;
            }
            int target = position + 1;
            int source = 1;
            while (source < left.size) {
                int targetSymbol = right.symbolAt(target);
                int sourceSymbol = left.symbolAt(source);
                if (isVariable(targetSymbol) || isVariable(sourceSymbol) || isFunction(targetSymbol)) {
                    target = signature.endOf(right, target);
                    // At least one step, so that the end of the loop does not hang on endOf.
                    source = Math.max(source + 1, signature.endOf(left, source));
                } else if (targetSymbol == sourceSymbol) {
                    target++;
                    source++;
                } else {
                    return false;
                }
            }
            return true;
        }
    }

    /** The components of the dependency graph restricted to the pairs that were not removed. */
    private static final class Components {
        private final PairGraph kept = new PairGraph();
        private final PairGraph paths = new PairGraph();
        private final int[] numbers = new int[MAX_PAIRS];
        private int count;
        private int members;

        void reset(PairTable pairs) {
            kept.copyFrom(pairs.edges);
        }

        void remove(int pair) {
            // Without an edge from it, a pair is on no cycle, and so in no component.
            kept.removeEdgesFrom(pair);
        }

        int number(int pair) {
            return pair >= 0 && pair < numbers.length ? numbers[pair] : NONE;
        }

        void rebuild(PairTable pairs) {
            paths.copyFrom(kept);
            paths.addPaths(pairs.count);
            count = 0;
            members = 0;
            for (int pair = 0; pair < pairs.count && pair < numbers.length; pair++) {
                numbers[pair] = numberFor(pair);
                if (numbers[pair] >= 0) {
                    members++;
                }
            }
        }

        private int numberFor(int pair) {
            if (!paths.has(pair, pair)) {
                return NONE;
            }
            for (int lower = 0; lower < pair; lower++) {
                if (paths.has(pair, lower) && paths.has(lower, pair)) {
                    return number(lower);
                }
            }
            count++;
            return count - 1;
        }
    }

    /** The closure of the size-change graphs. */
    private static final class Closure {
        private static final int SLOTS = 1024;
        private static final int SLOT_SHIFT = 22;
        private static final int SPREAD = 0x9E3779B1;

        private final int[] graphs = new int[MAX_GRAPHS];
        // A hash table of the graphs; 0 is a free slot, so a graph stands there as its number plus 1.
        private final int[] slots = new int[SLOTS];
        private int count;
        private int idempotents;
        private int decreasing;
        private boolean tooLarge;

        void rebuild(PairTable pairs) {
            count = 0;
            tooLarge = false;
            for (int slot = 0; slot < slots.length; slot++) {
                slots[slot] = 0;
            }
            for (int pair = 0; pair < pairs.count; pair++) {
                include(pairs.graph(pair));
            }
            // Composition is associative: composing with the graphs of the pairs on the right reaches everything.
            int generators = count;
            for (int first = 0; first < count && first < MAX_GRAPHS && !tooLarge; first++) {
                for (int second = 0; second < generators; second++) {
                    if (targetOf(graphs[first]) == sourceOf(graphs[second])) {
                        include(composed(graphs[first], graphs[second]));
                    }
                }
            }
            judge();
        }

        private void include(int graph) {
            int slot = slotOf(graph);
            if (slots[slot] == graph + 1) {
                return;
            }
            if (count < 0 || count >= MAX_GRAPHS) {
                tooLarge = true;
                return;
            }
            slots[slot] = graph + 1;
            graphs[count] = graph;
            count++;
        }

        /** The slot of a graph, or the free slot where it belongs; there are more slots than graphs. */
        private int slotOf(int graph) {
            int slot = (graph * SPREAD) >>> SLOT_SHIFT;
            for (int tries = 0; tries < SLOTS; tries++) {
                if (slots[slot] == 0 || slots[slot] == graph + 1) {
                    return slot;
                }
                slot = (slot + 1) & (SLOTS - 1);
            }
            return slot;
        }

        private void judge() {
            idempotents = 0;
            decreasing = 0;
            for (int index = 0; index < count && index < MAX_GRAPHS; index++) {
                int graph = graphs[index];
                if (sourceOf(graph) == targetOf(graph) && composed(graph, graph) == graph) {
                    idempotents++;
                    if (decreases(graph)) {
                        decreasing++;
                    }
                }
            }
        }

        private static boolean decreases(int graph) {
            for (int argument = 0; argument < MAX_ARITY; argument++) {
                if (relationIn(graph, argument, argument) == 2) {
                    return true;
                }
            }
            return false;
        }
    }

    /** The subterm criterion: projections, and the elimination by rounds. */
    private static final class Elimination {
        private final Components remainder = new Components();
        private final int[] chosen = new int[FUNCTIONS];
        private final int[] choices = new int[FUNCTIONS];
        private int rounds;

        void run(PairTable pairs, Signature signature) {
            rounds = 0;
            remainder.reset(pairs);
            remainder.rebuild(pairs);
            // A round that removes no pair is the last one, so there are no more rounds than pairs.
            for (int round = 0; round < MAX_PAIRS; round++) {
                if (!removeDecreasing(pairs, signature)) {
                    return;
                }
                rounds++;
                remainder.rebuild(pairs);
            }
        }

        private boolean removeDecreasing(PairTable pairs, Signature signature) {
            boolean removed = false;
            for (int component = 0; component < remainder.count; component++) {
                if (findProjection(pairs, remainder, component, signature)) {
                    removeStrict(pairs, component);
                    removed = true;
                }
            }
            return removed;
        }

        private void removeStrict(PairTable pairs, int component) {
            for (int pair = 0; pair < pairs.count; pair++) {
                if (remainder.number(pair) == component && projected(pairs.graph(pair)) == 2) {
                    remainder.remove(pair);
                }
            }
        }

        /** Chooses the lowest valid projection of a component, if there is one. */
        boolean findProjection(PairTable pairs, Components components, int component, Signature signature) {
            countChoices(pairs, components, component, signature);
            for (int first = 0; first < choices[0]; first++) {
                for (int second = 0; second < choices[1]; second++) {
                    for (int third = 0; third < choices[2]; third++) {
                        chosen[0] = first;
                        chosen[1] = second;
                        chosen[2] = third;
                        if (isValid(pairs, components, component)) {
                            return true;
                        }
                    }
                }
            }
            return false;
        }

        int projectionNumber() {
            return 100 * (chosen[0] + 1) + 10 * (chosen[1] + 1) + chosen[2] + 1;
        }

        private void countChoices(PairTable pairs, Components components, int component, Signature signature) {
            for (int function = 0; function < FUNCTIONS; function++) {
                choices[function] = 1;
            }
            for (int pair = 0; pair < pairs.count; pair++) {
                if (components.number(pair) == component) {
                    allowChoices(sourceOf(pairs.graph(pair)), signature);
                    allowChoices(targetOf(pairs.graph(pair)), signature);
                }
            }
        }

        private void allowChoices(int function, Signature signature) {
            if (isFunctionNumber(function)) {
                choices[function] = signature.ofFunction(function);
            }
        }

        private boolean isValid(PairTable pairs, Components components, int component) {
            boolean strict = false;
            for (int pair = 0; pair < pairs.count; pair++) {
                if (components.number(pair) == component) {
                    int relation = projected(pairs.graph(pair));
                    if (relation == 0) {
                        return false;
                    }
                    strict = strict || relation == 2;
                }
            }
            return strict;
        }

        /** The relation of a size-change graph under the chosen projection. */
        private int projected(int graph) {
            return relationIn(graph, choiceOf(sourceOf(graph)), choiceOf(targetOf(graph)));
        }

        private int choiceOf(int function) {
            return function >= 0 && function < chosen.length ? chosen[function] : 0;
        }
    }
}
