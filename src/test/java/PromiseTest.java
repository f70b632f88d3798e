/** Each promise of the document: ordinary inputs, the edges that the document names, and wrong inputs. */
public final class PromiseTest {
    private static final int LOW = Integer.MIN_VALUE;
    private static final int HIGH = Integer.MAX_VALUE;
    private static final int[] NO_REGISTERS = {-1, 4, LOW, HIGH};

    private static int wrong = 0;
    private static int promise = 0;

    private static void due(String call, int got, int want) {
        if (got != want) {
            wrong++;
            System.out.println("promise " + promise + ": " + call + " answered " + got + ", due is " + want);
        }
    }

    private static void due(String call, String got, String want) {
        if (!got.equals(want)) {
            wrong++;
            System.out.println("promise " + promise + ": " + call + " gave " + got + ", due is " + want);
        }
    }

    // ---- Ways to prepare an object ----

    private static DependencyPairAnalyzer fresh() {
        return new DependencyPairAnalyzer();
    }

    private static void type(DependencyPairAnalyzer a, String text) {
        for (int i = 0; i < text.length(); i++) {
            due("appendCharacter(" + text.charAt(i) + ")", a.appendCharacter(text.charAt(i)), i + 1);
        }
    }

    private static int add(DependencyPairAnalyzer a, String rule) {
        type(a, rule);
        return a.addRule();
    }

    private static int put(DependencyPairAnalyzer a, int register, String term) {
        type(a, term);
        return a.parseTerm(register);
    }

    private static DependencyPairAnalyzer with(String... rules) {
        return withArities(2, 2, 1, rules);
    }

    private static DependencyPairAnalyzer withArities(int f, int g, int h, String... rules) {
        DependencyPairAnalyzer a = fresh();
        due("setArity of f", a.setArity(0, f), 2);
        due("setArity of g", a.setArity(1, g), 2);
        due("setArity of h", a.setArity(2, h), 1);
        for (int i = 0; i < rules.length; i++) {
            due("addRule of " + rules[i], add(a, rules[i]), i);
        }
        return a;
    }

    private static String shown(DependencyPairAnalyzer a, int register) {
        StringBuilder text = new StringBuilder();
        int length = a.formattedLength(register);
        for (int i = 0; i < length; i++) {
            text.append((char) a.formattedCharacter(register, i));
        }
        return text.toString();
    }

    private static String left(DependencyPairAnalyzer a, int rule) {
        a.loadLeft(rule, 3);
        return shown(a, 3);
    }

    private static String right(DependencyPairAnalyzer a, int rule) {
        a.loadRight(rule, 3);
        return shown(a, 3);
    }

    private static final String[] PLUS_TIMES = {
        "f(z,y)>y", "f(s(x),y)>s(f(x,y))", "g(z,y)>z", "g(s(x),y)>f(y,g(x,y))"
    };
    private static final String[] ACKERMANN = {
        "f(z,y)>s(y)", "f(s(x),z)>f(x,s(z))", "f(s(x),s(y))>f(x,f(s(x),y))"
    };

    // ---- Promises 1 to 8: arities and rules ----

    private static void newObject() {
        DependencyPairAnalyzer a = fresh();
        due("ruleCount()", a.ruleCount(), 0);
        due("textLength()", a.textLength(), 0);
        for (int r = 0; r < 4; r++) {
            due("register " + r, shown(a, r), "z");
        }
        due("arity(0)", a.arity(0), 2);
        due("arity(1)", a.arity(1), 2);
        due("arity(2)", a.arity(2), 1);
        due("restoreSnapshot()", a.restoreSnapshot(), -3);
        DependencyPairAnalyzer b = with("h(x)>x");
        due("ruleCount() of the other object", a.ruleCount(), 0);
        due("ruleCount() of this object", b.ruleCount(), 1);
    }

    private static void setArity() {
        DependencyPairAnalyzer a = fresh();
        due("parseTerm(0)", put(a, 0, "s(f(z,x))"), 4);
        due("parseTerm(1)", put(a, 1, "g(z,x)"), 3);
        due("parseTerm(2)", put(a, 2, "c(h(z),f(z,z))"), 6);
        due("setArity(0, 3)", a.setArity(0, 3), 2);
        due("register 0", shown(a, 0), "z");
        due("register 1", shown(a, 1), "g(z,x)");
        due("register 2", shown(a, 2), "z");
        due("setArity(0, 1)", a.setArity(0, 1), 3);
        due("arity(0)", a.arity(0), 1);
        due("parseTerm(0)", put(a, 0, "f(f(y))"), 3);
        due("setArity(0, 1) again", a.setArity(0, 1), 1);
        due("register 0 behind the same arity", shown(a, 0), "z");
        due("setArity(1, 3)", a.setArity(1, 3), 2);
        due("register 1", shown(a, 1), "z");
        due("setArity(2, 2)", a.setArity(2, 2), 1);
        due("arity(2)", a.arity(2), 2);
        for (int function : new int[] {-1, 3, LOW, HIGH}) {
            due("setArity(" + function + ", 1)", a.setArity(function, 1), -1);
            due("setArity(" + function + ", 0)", a.setArity(function, 0), -1);
        }
        for (int arity : new int[] {0, 4, -1, LOW, HIGH}) {
            due("setArity(0, " + arity + ")", a.setArity(0, arity), -2);
        }
        due("parseTerm(0)", put(a, 0, "f(z)"), 2);
        due("addRule()", add(a, "f(x)>x"), 0);
        due("setArity(0, 2) with a rule", a.setArity(0, 2), -3);
        due("setArity(1, 2) with a rule", a.setArity(1, 2), -3);
        due("setArity(3, 2) with a rule", a.setArity(3, 2), -1);
        due("setArity(0, 4) with a rule", a.setArity(0, 4), -2);
        due("register 0 is kept", shown(a, 0), "f(z)");
        due("arity(0) is kept", a.arity(0), 1);
        due("removeRule(0)", a.removeRule(0), 0);
        due("setArity(0, 2) without rules", a.setArity(0, 2), 1);
        due("register 0", shown(a, 0), "z");
    }

    private static void arity() {
        DependencyPairAnalyzer a = fresh();
        due("setArity(1, 1)", a.setArity(1, 1), 2);
        due("setArity(2, 3)", a.setArity(2, 3), 1);
        due("arity(0)", a.arity(0), 2);
        due("arity(1)", a.arity(1), 1);
        due("arity(2)", a.arity(2), 3);
        for (int function : new int[] {-1, 3, LOW, HIGH}) {
            due("arity(" + function + ")", a.arity(function), -1);
        }
    }

    private static void refused(String rule, int answer) {
        DependencyPairAnalyzer a = fresh();
        due("addRule of " + rule, add(a, rule), answer);
        due("textLength() behind " + rule, a.textLength(), 0);
        due("ruleCount() behind " + rule, a.ruleCount(), 0);
        due("pairCount() behind " + rule, a.pairCount(), 0);
    }

    private static void addRuleBySyntax() {
        String[] cut = {"", "f", "f(", "f(z", "f(z,", "f(z,z", "f(z,z)", "f(z,z)>", "f(z,z)>s", "f(z,z)>s("};
        for (String text : cut) {
            refused(text, -100 - text.length());
        }
        refused(">", -100);
        refused("k>z", -100);
        refused(" f(z,z)>z", -100);
        refused("f (z,z)>z", -101);
        refused("fz,z)>z", -101);
        refused("f()>z", -102);
        refused("f(z)>z", -103);
        refused("f(z,z,z)>z", -105);
        refused("f(z,z)z", -106);
        refused("f(z,z)=z", -106);
        refused("f(z,z)>z>z", -108);
        refused("f(z,z)>z)", -108);
        refused("f(z,z)>z ", -108);
        refused("x(z)>z", -101);
        refused("z(z)>z", -101);
        refused("h(s(z,z))>z", -105);
        refused("h(c(z))>z", -105);
        refused("h(z>z", -103);
        refused("H(z)>z", -100);
        StringBuilder open = new StringBuilder();
        for (int i = 0; i < 40; i++) {
            open.append("s(");
        }
        refused(open.toString(), -180);
        refused(open.toString().replace("s(", "xz"), -101);
    }

    private static void addRule() {
        addRuleBySyntax();
        refused("z>z", -6);
        refused("x>x", -6);
        refused("s(x)>x", -6);
        refused("c(x,y)>f(x,y)", -6);
        refused("f(f(z,z),z)>z", -6);
        refused("f(z,s(h(x)))>z", -6);
        refused("h(x)>y", -6);
        refused("f(x,y)>s(f(x,w))", -6);
        refused("h(z)>x", -6);
        DependencyPairAnalyzer a = fresh();
        due("addRule()", add(a, "f(x,x)>c(x,x)"), 0);
        due("left side", left(a, 0), "f(x,x)");
        due("right side", right(a, 0), "c(x,x)");
        due("textLength()", a.textLength(), 0);
        String[] more = {"h(z)>z", "h(z)>z", "g(w,y)>g(y,h(h(w)))", "h(s(x))>x", "f(c(x,y),w)>f(x,f(y,w))"};
        for (int i = 0; i < more.length; i++) {
            due("addRule of " + more[i], add(a, more[i]), i + 1);
        }
        due("addRule() with 6 rules", add(a, "h(x)>x"), -4);
        due("textLength() is kept", a.textLength(), 6);
        due("ruleCount()", a.ruleCount(), 6);
        due("removeRule(5)", a.removeRule(5), 5);
        due("addRule() of the kept text", a.addRule(), 5);
        due("left side", left(a, 5), "h(x)");
        due("clearText()", a.clearText(), 0);
        due("addRule() with 6 rules and a wrong text", add(a, "h("), -4);
        due("textLength() is kept", a.textLength(), 2);
        addLongRules();
    }

    private static void addLongRules() {
        DependencyPairAnalyzer a = fresh();
        StringBuilder right = new StringBuilder("x");
        for (int i = 0; i < 24; i++) {
            right.insert(0, "h(").append(")");
        }
        due("addRule of 78 characters", add(a, "h(x)>" + right), 0);
        due("rightSize(0)", a.rightSize(0), 25);
        due("pairCount()", a.pairCount(), 24);
        DependencyPairAnalyzer b = withArities(3, 2, 1);
        String wide = "f(f(f(z,z,z),f(z,z,z),f(z,z,z)),f(z,z,z),f(z,z,f(z,z,z)))";
        due("addRule of a wide rule", add(b, "h(x)>" + wide), 0);
        due("right side", right(b, 0), wide);
        due("rightSize(0)", b.rightSize(0), 25);
    }

    private static void removeRule() {
        DependencyPairAnalyzer a = with("h(z)>z", "h(s(x))>h(x)", "g(x,y)>f(x,y)", "f(x,y)>y");
        due("removeRule(4)", a.removeRule(4), -1);
        due("removeRule(-1)", a.removeRule(-1), -1);
        due("removeRule(LOW)", a.removeRule(LOW), -1);
        due("removeRule(HIGH)", a.removeRule(HIGH), -1);
        due("pairCount()", a.pairCount(), 2);
        due("removeRule(1)", a.removeRule(1), 3);
        due("left of 0", left(a, 0), "h(z)");
        due("left of 1", left(a, 1), "g(x,y)");
        due("right of 1", right(a, 1), "f(x,y)");
        due("left of 2", left(a, 2), "f(x,y)");
        due("right of 2", right(a, 2), "y");
        due("leftSize(3)", a.leftSize(3), -1);
        due("pairCount()", a.pairCount(), 1);
        due("pairRule(0)", a.pairRule(0), 1);
        due("closureSize()", a.closureSize(), 1);
        due("removeRule(2)", a.removeRule(2), 2);
        due("removeRule(0)", a.removeRule(0), 1);
        due("left of 0", left(a, 0), "g(x,y)");
        due("removeRule(0)", a.removeRule(0), 0);
        due("removeRule(0) without rules", a.removeRule(0), -1);
        due("closureSize()", a.closureSize(), 0);
        due("addRule()", add(a, "h(x)>x"), 0);
    }

    private static void ruleCount() {
        DependencyPairAnalyzer a = fresh();
        due("ruleCount()", a.ruleCount(), 0);
        for (int i = 0; i < 6; i++) {
            due("addRule()", add(a, "h(x)>x"), i);
            due("ruleCount()", a.ruleCount(), i + 1);
        }
        due("addRule()", add(a, "h(x)>x"), -4);
        due("ruleCount()", a.ruleCount(), 6);
        due("removeRule(3)", a.removeRule(3), 5);
        due("ruleCount()", a.ruleCount(), 5);
    }

    private static void leftSize() {
        DependencyPairAnalyzer a = with("h(z)>z", "f(c(x,y),s(w))>c(x,c(y,w))");
        due("leftSize(0)", a.leftSize(0), 2);
        due("leftSize(1)", a.leftSize(1), 6);
        for (int rule : new int[] {-1, 2, 6, LOW, HIGH}) {
            due("leftSize(" + rule + ")", a.leftSize(rule), -1);
        }
    }

    private static void rightSize() {
        DependencyPairAnalyzer a = with("h(z)>z", "f(c(x,y),s(w))>c(x,c(y,w))");
        due("rightSize(0)", a.rightSize(0), 1);
        due("rightSize(1)", a.rightSize(1), 5);
        for (int rule : new int[] {-1, 2, 6, LOW, HIGH}) {
            due("rightSize(" + rule + ")", a.rightSize(rule), -1);
        }
    }

    // ---- Promises 9 to 17: pairs, graph, components ----

    private static void pairCount() {
        due("pairCount()", fresh().pairCount(), 0);
        due("pairCount() without functions", with("h(x)>s(x)").pairCount(), 0);
        due("pairCount()", with(PLUS_TIMES).pairCount(), 3);
        due("pairCount()", with("f(x,y)>f(f(x,y),g(h(x),h(y)))", "h(x)>h(h(x))").pairCount(), 7);
        String deep = "x";
        for (int i = 0; i < 24; i++) {
            deep = "h(" + deep + ")";
        }
        due("pairCount() of 24 calls", with("h(x)>" + deep).pairCount(), 24);
    }

    private static final int[] NO_PAIRS = {-1, 3, LOW, HIGH};

    private static void pairRule() {
        DependencyPairAnalyzer a = with(PLUS_TIMES);
        int[] rules = {1, 3, 3};
        for (int pair = 0; pair < 3; pair++) {
            due("pairRule(" + pair + ")", a.pairRule(pair), rules[pair]);
        }
        for (int pair : NO_PAIRS) {
            due("pairRule(" + pair + ")", a.pairRule(pair), -1);
        }
        due("pairRule(0) without rules", fresh().pairRule(0), -1);
    }

    private static void pairPosition() {
        DependencyPairAnalyzer a = with("h(x)>z", "f(x,y)>c(s(h(x)),f(z,g(x,y)))");
        int[] positions = {2, 4, 6};
        for (int pair = 0; pair < 3; pair++) {
            due("pairPosition(" + pair + ")", a.pairPosition(pair), positions[pair]);
        }
        for (int pair : NO_PAIRS) {
            due("pairPosition(" + pair + ")", a.pairPosition(pair), -1);
        }
    }

    private static void sourceFunction() {
        DependencyPairAnalyzer a = with("f(x,y)>h(x)", "g(x,y)>h(x)", "h(s(x))>f(x,x)");
        for (int pair = 0; pair < 3; pair++) {
            due("sourceFunction(" + pair + ")", a.sourceFunction(pair), pair);
        }
        for (int pair : NO_PAIRS) {
            due("sourceFunction(" + pair + ")", a.sourceFunction(pair), -1);
        }
    }

    private static void targetFunction() {
        DependencyPairAnalyzer a = with("h(s(x))>f(x,g(x,h(x)))");
        for (int pair = 0; pair < 3; pair++) {
            due("targetFunction(" + pair + ")", a.targetFunction(pair), pair);
        }
        for (int pair : NO_PAIRS) {
            due("targetFunction(" + pair + ")", a.targetFunction(pair), -1);
        }
    }

    /** Each case: the edge from the first to the second pair, then two rules with a pair each. */
    private static void hasEdge() {
        String[][] cases = {
            {"1", "g(x,y)>f(x,y)", "f(z,s(x))>h(x)"},
            {"1", "g(x,y)>f(z,s(s(z)))", "f(x,s(s(y)))>h(x)"},
            {"0", "g(x,y)>f(z,s(x))", "f(z,z)>h(z)"},
            {"0", "g(x,y)>f(s(x),y)", "f(z,y)>h(z)"},
            {"0", "g(x,y)>f(c(x,z),y)", "f(c(z,s(x)),y)>h(z)"},
            {"1", "g(x,y)>f(c(x,z),y)", "f(c(z,x),y)>h(z)"},
            {"0", "g(x,y)>f(c(s(x),y),s(z))", "f(c(s(x),y),z)>h(z)"},
            {"1", "g(x,y)>f(c(s(x),y),s(z))", "f(c(s(x),y),s(z))>h(z)"},
            {"1", "g(x,y)>f(z,s(z))", "f(x,x)>h(z)"},
            {"1", "g(x,y)>f(x,x)", "f(z,s(z))>h(z)"},
            {"0", "g(x,y)>h(x)", "f(z,s(z))>h(z)"},
        };
        for (String[] one : cases) {
            DependencyPairAnalyzer a = with(one[1], one[2]);
            due("hasEdge(0, 1) of " + one[1] + " " + one[2], a.hasEdge(0, 1), one[0].charAt(0) - '0');
            due("hasEdge(0, 0) of " + one[1] + " " + one[2], a.hasEdge(0, 0), 0);
        }
        // A function inside the target is compatible with everything, even with what it would never become.
        DependencyPairAnalyzer inner = with("g(x,y)>f(s(h(x)),z)", "f(s(s(x)),z)>h(x)", "h(x)>z");
        due("hasEdge(0, 2) to a call under h", inner.hasEdge(0, 2), 1);
        due("hasEdge(1, 2) from the call of h", inner.hasEdge(1, 2), 0);
        DependencyPairAnalyzer a = with(PLUS_TIMES);
        String expected = "100" + "100" + "011";
        for (int from = 0; from < 3; from++) {
            for (int to = 0; to < 3; to++) {
                due("hasEdge(" + from + ", " + to + ")", a.hasEdge(from, to), expected.charAt(3 * from + to) - '0');
            }
            for (int pair : NO_PAIRS) {
                due("hasEdge(" + from + ", " + pair + ")", a.hasEdge(from, pair), -1);
                due("hasEdge(" + pair + ", " + from + ")", a.hasEdge(pair, from), -1);
            }
        }
    }

    private static void edgeCount() {
        due("edgeCount()", fresh().edgeCount(), 0);
        due("edgeCount()", with(PLUS_TIMES).edgeCount(), 4);
        due("edgeCount()", with(ACKERMANN).edgeCount(), 8);
        String deep = "x";
        for (int i = 0; i < 24; i++) {
            deep = "h(" + deep + ")";
        }
        String[] rules = new String[5];
        for (int i = 0; i < rules.length; i++) {
            rules[i] = "h(x)>" + deep;
        }
        due("edgeCount() of 120 pairs", with(rules).edgeCount(), 120 * 120);
        due("edgeCount() behind removeRule", edgesBehindRemoval(), 1);
    }

    private static int edgesBehindRemoval() {
        DependencyPairAnalyzer a = with("h(s(x))>h(x)", "f(x,y)>f(y,x)");
        due("edgeCount()", a.edgeCount(), 2);
        due("removeRule(0)", a.removeRule(0), 1);
        return a.edgeCount();
    }

    // The pairs 0 and 3 call each other, pair 1 calls itself, and pair 2 only leads from one to the other.
    private static final String[] TWO_COMPONENTS = {"f(x,y)>g(y,x)", "h(s(x))>h(x)", "g(x,y)>c(h(x),f(x,y))"};

    private static void componentCount() {
        due("componentCount()", fresh().componentCount(), 0);
        due("componentCount() without a cycle", with("f(x,y)>g(x,y)", "g(x,y)>h(x)").componentCount(), 0);
        due("componentCount()", with(PLUS_TIMES).componentCount(), 2);
        due("componentCount()", with(TWO_COMPONENTS).componentCount(), 2);
        due("componentCount()", with(ACKERMANN).componentCount(), 1);
    }

    private static void componentOf() {
        DependencyPairAnalyzer a = with(TWO_COMPONENTS);
        int[] components = {0, 1, -5, 0};
        for (int pair = 0; pair < 4; pair++) {
            due("componentOf(" + pair + ")", a.componentOf(pair), components[pair]);
        }
        for (int pair : new int[] {-1, 4, LOW, HIGH}) {
            due("componentOf(" + pair + ")", a.componentOf(pair), -1);
        }
        DependencyPairAnalyzer b = with("f(x,y)>h(x)", "h(x)>g(x,x)", "g(x,y)>h(x)", "f(s(x),y)>f(x,y)");
        int[] others = {-5, 0, 0, 1};
        for (int pair = 0; pair < 4; pair++) {
            due("componentOf(" + pair + ")", b.componentOf(pair), others[pair]);
        }
    }

    // ---- Promises 18 to 21: size change ----

    private static void sizeRelation() {
        DependencyPairAnalyzer a = withArities(3, 2, 1, "f(c(x,s(y)),s(x),z)>f(s(y),s(x),y)", "f(x,y,w)>g(s(x),h(x))");
        String expected = "202" + "010" + "000";
        for (int from = 0; from < 3; from++) {
            for (int to = 0; to < 3; to++) {
                due("sizeRelation(0, " + from + ", " + to + ")", a.sizeRelation(0, from, to),
                        expected.charAt(3 * from + to) - '0');
            }
            due("sizeRelation(1, " + from + ", 0)", a.sizeRelation(1, from, 0), 0);
            due("sizeRelation(1, " + from + ", 1)", a.sizeRelation(1, from, 1), 0);
            due("sizeRelation(1, " + from + ", 2)", a.sizeRelation(1, from, 2), -1);
            due("sizeRelation(2, " + from + ", 0)", a.sizeRelation(2, from, 0), from == 0 ? 1 : 0);
        }
        for (int number : new int[] {-1, 3, LOW, HIGH}) {
            due("sizeRelation(" + number + ", 0, 0)", a.sizeRelation(number, 0, 0), -1);
            due("sizeRelation(0, " + number + ", 0)", a.sizeRelation(0, number, 0), -1);
            due("sizeRelation(0, 0, " + number + ")", a.sizeRelation(0, 0, number), -1);
        }
        DependencyPairAnalyzer b = with("h(c(z,z))>f(z,c(z,z))");
        due("sizeRelation(0, 0, 0)", b.sizeRelation(0, 0, 0), 2);
        due("sizeRelation(0, 0, 1)", b.sizeRelation(0, 0, 1), 1);
        due("sizeRelation(0, 1, 0)", b.sizeRelation(0, 1, 0), -1);
    }

    private static final String[] CLOSURE_OF_400 = {
        "f(c(y,w),s(w),s(w))>f(s(w),c(y,w),w)", "f(w,s(w),c(x,y))>f(c(y,w),s(w),s(x))",
        "f(s(y),s(x),s(w))>f(s(y),w,x)", "f(w,w,y)>f(c(y,w),y,c(y,w))", "f(x,c(x,y),w)>f(w,x,y)",
        "f(c(y,w),x,x)>f(c(y,w),s(y),x)"
    };
    private static final String[] CLOSURE_OF_401 = {
        "f(w,s(y),x)>f(w,c(x,y),s(y))", "f(x,c(y,w),s(y))>f(c(y,w),s(y),x)",
        "f(c(x,y),c(x,y),s(x))>f(y,c(x,y),c(x,y))", "f(s(w),s(w),c(x,y))>f(c(y,w),x,c(x,y))",
        "f(w,s(w),s(y))>f(s(w),s(w),s(w))", "f(c(y,w),x,x)>f(w,c(x,y),x)"
    };

    private static void closureSize() {
        due("closureSize()", fresh().closureSize(), 0);
        due("closureSize() without pairs", with("h(x)>x").closureSize(), 0);
        due("closureSize()", with(PLUS_TIMES).closureSize(), 4);
        due("closureSize()", with("f(x,y)>f(y,x)").closureSize(), 2);
        due("closureSize()", with("g(s(x),y)>g(y,x)").closureSize(), 3);
        due("closureSize()", withArities(3, 2, 1, "f(s(x),y,w)>f(y,w,x)").closureSize(), 5);
        due("closureSize() of equal graphs", with("h(s(x))>h(x)", "h(c(x,y))>h(y)").closureSize(), 1);
        due("closureSize() of graphs between others", with("f(x,y)>g(x,y)", "g(x,y)>h(x)").closureSize(), 3);
        due("closureSize() with the same relations", with("f(x,y)>z", "h(x)>h(z)", "g(x,y)>h(z)").closureSize(), 2);
        due("closureSize() at the limit", withArities(3, 2, 1, CLOSURE_OF_400).closureSize(), 400);
        DependencyPairAnalyzer a = withArities(3, 2, 1, CLOSURE_OF_401);
        due("closureSize() above the limit", a.closureSize(), -8);
        due("removeRule(0)", a.removeRule(0), 5);
        due("removeRule(0)", a.removeRule(0), 4);
        due("removeRule(0)", a.removeRule(0), 3);
        due("removeRule(0)", a.removeRule(0), 2);
        due("removeRule(0)", a.removeRule(0), 1);
        // The graph of f(c(y,w),x,x)>f(w,c(x,y),x) is idempotent.
        due("closureSize() below the limit again", a.closureSize(), 1);
    }

    private static void idempotentCount() {
        due("idempotentCount()", fresh().idempotentCount(), 0);
        due("idempotentCount()", with(PLUS_TIMES).idempotentCount(), 2);
        due("idempotentCount()", with("f(x,y)>f(y,x)").idempotentCount(), 1);
        due("idempotentCount() of no cycle", with("f(x,y)>g(x,y)").idempotentCount(), 0);
        due("idempotentCount()", with("h(x)>h(x)", "h(s(x))>h(x)", "h(x)>h(z)").idempotentCount(), 3);
        due("idempotentCount() above the limit", withArities(3, 2, 1, CLOSURE_OF_401).idempotentCount(), -8);
    }

    private static void terminatesBySizeChange() {
        due("terminatesBySizeChange()", fresh().terminatesBySizeChange(), 1);
        due("terminatesBySizeChange()", with(PLUS_TIMES).terminatesBySizeChange(), 1);
        due("terminatesBySizeChange()", with(ACKERMANN).terminatesBySizeChange(), 1);
        due("terminatesBySizeChange()", with("f(x,y)>f(y,x)").terminatesBySizeChange(), 0);
        due("terminatesBySizeChange()", with("g(s(x),y)>g(y,x)").terminatesBySizeChange(), 1);
        due("terminatesBySizeChange()", with("g(s(x),y)>g(y,s(x))").terminatesBySizeChange(), 0);
        due("one of two", with("h(s(x))>h(x)", "g(x,y)>g(x,y)").terminatesBySizeChange(), 0);
        due("a decrease off the diagonal", with("f(s(x),y)>f(z,x)").terminatesBySizeChange(), 0);
        // The dependency graph has no edge here, but the size-change test does not look at it.
        due("no edge, but a graph", with("h(z)>h(s(z))").terminatesBySizeChange(), 0);
        due("above the limit", withArities(3, 2, 1, CLOSURE_OF_401).terminatesBySizeChange(), -8);
    }

    // ---- Promises 22 to 26: subterm criterion ----

    private static void projection() {
        DependencyPairAnalyzer a = with(PLUS_TIMES);
        due("projection(0)", a.projection(0), 111);
        due("projection(1)", a.projection(1), 111);
        for (int component : new int[] {-1, 2, LOW, HIGH}) {
            due("projection(" + component + ")", a.projection(component), -1);
        }
        due("projection(0)", fresh().projection(0), -1);
        due("projection(0) of f", withArities(3, 2, 1, "f(x,y,s(w))>f(y,x,w)").projection(0), 311);
        due("projection(0) of g", withArities(3, 2, 1, "g(x,s(y))>g(z,y)").projection(0), 121);
        due("projection(0) of h", withArities(3, 2, 3, "h(x,y,s(w))>h(y,x,w)").projection(0), 113);
        due("projection(0) of two", with("f(x,s(y))>g(y,z)", "g(x,y)>f(z,x)").projection(0), 211);
        due("projection(0) of three", with("f(x,y)>g(z,y)", "g(x,y)>h(y)", "h(s(x))>f(z,x)").projection(0), 221);
        due("the lowest of several", with("f(s(x),s(y))>f(x,y)").projection(0), 111);
        due("equal is not enough", with("f(x,y)>f(x,y)").projection(0), -5);
        due("equal with one decrease", with("f(x,s(y))>f(x,y)").projection(0), 211);
        due("one pair without relation", with("h(s(x))>h(x)", "h(x)>h(s(z))").projection(0), -5);
        due("first rounds only", with(ACKERMANN).projection(0), 111);
    }

    private static final String[] THREE_ROUNDS = {
        "f(s(x),y,w)>f(x,w,y)", "f(x,s(y),w)>f(x,y,s(w))", "f(x,y,s(w))>f(x,y,w)"
    };

    private static void eliminationRounds() {
        due("eliminationRounds()", fresh().eliminationRounds(), 0);
        due("eliminationRounds()", with("h(x)>s(x)").eliminationRounds(), 0);
        due("eliminationRounds() of two components at once", with(PLUS_TIMES).eliminationRounds(), 1);
        due("eliminationRounds()", with(ACKERMANN).eliminationRounds(), 2);
        due("eliminationRounds()", withArities(3, 2, 1, THREE_ROUNDS).eliminationRounds(), 3);
        due("eliminationRounds() of a loop", with("f(x,y)>f(y,x)").eliminationRounds(), 0);
        due("eliminationRounds() beside a loop", with("f(x,y)>f(y,x)", "h(s(x))>h(x)").eliminationRounds(), 1);
    }

    private static void remainingPairCount() {
        due("remainingPairCount()", fresh().remainingPairCount(), 0);
        due("remainingPairCount()", with(PLUS_TIMES).remainingPairCount(), 0);
        due("remainingPairCount()", with(ACKERMANN).remainingPairCount(), 0);
        due("pairs outside do not count", with("f(x,y)>c(g(x,y),f(y,x))").remainingPairCount(), 1);
        due("both of a loop", with("f(x,y)>g(x,y)", "g(x,y)>f(x,y)").remainingPairCount(), 2);
        due("a loop behind a round", with("f(s(x),y)>f(x,y)", "f(x,y)>f(x,s(y))").remainingPairCount(), 1);
    }

    private static void remainingComponentCount() {
        due("remainingComponentCount()", fresh().remainingComponentCount(), 0);
        due("remainingComponentCount()", with(PLUS_TIMES).remainingComponentCount(), 0);
        due("one of two", with("f(x,y)>f(y,x)", "h(s(x))>h(x)").remainingComponentCount(), 1);
        due("two", with("f(x,y)>f(y,x)", "h(x)>h(x)").remainingComponentCount(), 2);
        // Without the pair from f to g, one component falls into two.
        DependencyPairAnalyzer a = with("f(s(x),y)>g(x,y)", "g(x,y)>f(x,z)", "f(x,y)>f(x,y)", "g(x,y)>g(x,y)");
        due("componentCount()", a.componentCount(), 1);
        due("remainingComponentCount()", a.remainingComponentCount(), 2);
        due("remainingPairCount()", a.remainingPairCount(), 2);
    }

    private static void terminatesBySubtermCriterion() {
        due("terminatesBySubtermCriterion()", fresh().terminatesBySubtermCriterion(), 1);
        due("terminatesBySubtermCriterion()", with(PLUS_TIMES).terminatesBySubtermCriterion(), 1);
        due("terminatesBySubtermCriterion()", with(ACKERMANN).terminatesBySubtermCriterion(), 1);
        due("no component at all", with("h(z)>h(s(z))").terminatesBySubtermCriterion(), 1);
        due("terminatesBySubtermCriterion()", with("f(x,y)>f(y,x)").terminatesBySubtermCriterion(), 0);
        due("size change only", with("g(s(x),y)>g(y,x)").terminatesBySubtermCriterion(), 0);
        due("one of two", with("h(s(x))>h(x)", "f(x,y)>f(x,y)").terminatesBySubtermCriterion(), 0);
    }

    // ---- Promises 27 to 34: registers ----

    private static void parseTerm() {
        DependencyPairAnalyzer a = fresh();
        String[] terms = {"z", "x", "w", "s(y)", "c(x,z)", "f(z,s(z))", "g(h(h(x)),f(z,c(w,y)))"};
        for (String term : terms) {
            due("parseTerm(2) of " + term, put(a, 2, term), term.replaceAll("[(),]", "").length());
            due("register 2", shown(a, 2), term);
            due("textLength()", a.textLength(), 0);
        }
        String[] wrongs = {"", "s", "s(", "s(z", "f(z)", "f(z,z,z)", "h(z,z)", "z(z)", "zz", "z>z", "k", " z", "z ", "s(z))"};
        int[] positions = {0, 1, 2, 3, 3, 5, 3, 1, 1, 1, 0, 0, 1, 4};
        for (int i = 0; i < wrongs.length; i++) {
            due("parseTerm(2) of " + wrongs[i], put(a, 2, wrongs[i]), -100 - positions[i]);
            due("textLength() behind " + wrongs[i], a.textLength(), 0);
            due("register 2 behind " + wrongs[i], shown(a, 2), terms[terms.length - 1]);
        }
        type(a, "s(");
        for (int register : NO_REGISTERS) {
            due("parseTerm(" + register + ")", a.parseTerm(register), -1);
            due("textLength() is kept", a.textLength(), 2);
        }
        due("parseTerm(0) of the kept text", a.parseTerm(0), -102);
        parseByArity();
    }

    private static void parseByArity() {
        DependencyPairAnalyzer a = withArities(3, 1, 2);
        due("parseTerm(3)", put(a, 3, "f(g(z),h(z,x),s(z))"), 8);
        due("parseTerm(3)", put(a, 3, "f(z,z)"), -105);
        due("parseTerm(3)", put(a, 3, "g(z,z)"), -103);
        String most = "f(f(f(z,z,z),f(z,z,z),f(z,z,z)),f(f(z,z,z),f(z,z,z),f(z,z,z)),f(z,z,f(z,z,z)))";
        due("parseTerm(3) of a text that was cut at 80", put(a, 3, cutAtTheLimit(most)), -180);
        due("register 3 is kept", shown(a, 3), "f(g(z),h(z,x),s(z))");
        due("parseTerm(3) of 34 symbols", put(a, 3, most), 34);
        due("register 3", shown(a, 3), most);
    }

    private static String cutAtTheLimit(String term) {
        return ("s(" + term + ")").substring(0, 80);
    }

    private static void termSize() {
        DependencyPairAnalyzer a = fresh();
        due("parseTerm(0)", put(a, 0, "f(s(z),c(x,y))"), 6);
        due("parseTerm(3)", put(a, 3, "h(z)"), 2);
        int[] sizes = {6, 1, 1, 2};
        for (int r = 0; r < 4; r++) {
            due("termSize(" + r + ")", a.termSize(r), sizes[r]);
        }
        for (int register : NO_REGISTERS) {
            due("termSize(" + register + ")", a.termSize(register), -1);
        }
    }

    private static void formattedLength() {
        DependencyPairAnalyzer a = withArities(3, 2, 1);
        String[] terms = {"z", "s(z)", "f(x,c(y,w),h(z))", "g(s(s(z)),f(z,z,z))"};
        for (int r = 0; r < 4; r++) {
            due("parseTerm(" + r + ")", put(a, r, terms[r]), terms[r].replaceAll("[(),]", "").length());
        }
        for (int r = 0; r < 4; r++) {
            due("formattedLength(" + r + ")", a.formattedLength(r), terms[r].length());
        }
        for (int register : NO_REGISTERS) {
            due("formattedLength(" + register + ")", a.formattedLength(register), -1);
        }
        DependencyPairAnalyzer b = with("h(x)>h(s(x))");
        due("parseTerm(0)", put(b, 0, "h(z)"), 2);
        due("rewriteOutermost(0, 100)", b.rewriteOutermost(0, 100), 38);
        due("formattedLength(0) of 40 symbols", b.formattedLength(0), 39 * 3 + 1);
        due("formattedCharacter(0, 117)", b.formattedCharacter(0, 117), ')');
        due("formattedCharacter(0, 118)", b.formattedCharacter(0, 118), -1);
        due("textLength() is not touched", b.textLength(), 0);
    }

    private static void formattedCharacter() {
        DependencyPairAnalyzer a = withArities(3, 2, 1);
        String term = "g(f(x,c(y,w),h(z)),s(c(z,z)))";
        due("parseTerm(1)", put(a, 1, term), 12);
        type(a, "kept");
        for (int i = 0; i < term.length(); i++) {
            due("formattedCharacter(1, " + i + ")", a.formattedCharacter(1, i), term.charAt(i));
        }
        for (int index : new int[] {-1, term.length(), LOW, HIGH}) {
            due("formattedCharacter(1, " + index + ")", a.formattedCharacter(1, index), -1);
        }
        due("formattedCharacter(0, 0)", a.formattedCharacter(0, 0), 'z');
        due("formattedCharacter(0, 1)", a.formattedCharacter(0, 1), -1);
        for (int register : NO_REGISTERS) {
            due("formattedCharacter(" + register + ", 0)", a.formattedCharacter(register, 0), -1);
        }
        due("textLength() is kept", a.textLength(), 4);
    }

    private static void compareTerms() {
        DependencyPairAnalyzer a = fresh();
        // By size first, then by the symbols in preorder: cszw is lower than cwhz, whatever the texts would be.
        String[] sorted = {"w", "x", "y", "z", "h(z)", "s(w)", "c(z,z)", "f(w,z)", "f(x,w)", "g(w,w)", "h(h(w))",
            "s(s(z))", "c(s(z),w)", "c(w,h(z))"};
        for (int i = 0; i + 1 < sorted.length; i++) {
            due("parseTerm(0)", put(a, 0, sorted[i]) > 0 ? 1 : 0, 1);
            due("parseTerm(1)", put(a, 1, sorted[i + 1]) > 0 ? 1 : 0, 1);
            due("compareTerms(0, 1) of " + sorted[i] + " " + sorted[i + 1], a.compareTerms(0, 1), 0);
            due("compareTerms(1, 0) of " + sorted[i] + " " + sorted[i + 1], a.compareTerms(1, 0), 2);
            due("compareTerms(0, 0)", a.compareTerms(0, 0), 1);
        }
        due("compareTerms(2, 3)", a.compareTerms(2, 3), 1);
        for (int register : NO_REGISTERS) {
            due("compareTerms(" + register + ", 0)", a.compareTerms(register, 0), -1);
            due("compareTerms(0, " + register + ")", a.compareTerms(0, register), -1);
        }
    }

    private static void copyTerm() {
        DependencyPairAnalyzer a = fresh();
        due("parseTerm(0)", put(a, 0, "f(x,s(z))"), 4);
        due("copyTerm(0, 3)", a.copyTerm(0, 3), 4);
        due("register 3", shown(a, 3), "f(x,s(z))");
        due("copyTerm(0, 0)", a.copyTerm(0, 0), 4);
        due("register 0", shown(a, 0), "f(x,s(z))");
        due("copyTerm(1, 0)", a.copyTerm(1, 0), 1);
        due("register 0", shown(a, 0), "z");
        due("register 3 is a copy of its own", shown(a, 3), "f(x,s(z))");
        for (int register : NO_REGISTERS) {
            due("copyTerm(" + register + ", 3)", a.copyTerm(register, 3), -1);
            due("copyTerm(3, " + register + ")", a.copyTerm(3, register), -1);
        }
        due("register 3", shown(a, 3), "f(x,s(z))");
    }

    private static void loadLeft() {
        DependencyPairAnalyzer a = with("h(z)>s(z)", "f(c(x,y),w)>f(x,f(y,w))");
        due("loadLeft(1, 2)", a.loadLeft(1, 2), 5);
        due("register 2", shown(a, 2), "f(c(x,y),w)");
        due("loadLeft(0, 0)", a.loadLeft(0, 0), 2);
        due("register 0", shown(a, 0), "h(z)");
        due("rewriteAt(0, 0)", a.rewriteAt(0, 0), 2);
        due("loadLeft(0, 1) behind a step on the copy", a.loadLeft(0, 1), 2);
        due("register 1", shown(a, 1), "h(z)");
        for (int rule : new int[] {-1, 2, LOW, HIGH}) {
            due("loadLeft(" + rule + ", 0)", a.loadLeft(rule, 0), -1);
        }
        for (int register : NO_REGISTERS) {
            due("loadLeft(0, " + register + ")", a.loadLeft(0, register), -1);
        }
        due("register 0 is kept", shown(a, 0), "s(z)");
    }

    private static void loadRight() {
        DependencyPairAnalyzer a = with("h(z)>s(z)", "f(c(x,y),w)>f(x,f(y,w))");
        due("loadRight(1, 2)", a.loadRight(1, 2), 5);
        due("register 2", shown(a, 2), "f(x,f(y,w))");
        due("loadRight(0, 0)", a.loadRight(0, 0), 2);
        due("register 0", shown(a, 0), "s(z)");
        for (int rule : new int[] {-1, 2, LOW, HIGH}) {
            due("loadRight(" + rule + ", 0)", a.loadRight(rule, 0), -1);
        }
        for (int register : NO_REGISTERS) {
            due("loadRight(0, " + register + ")", a.loadRight(0, register), -1);
        }
        due("register 0 is kept", shown(a, 0), "s(z)");
    }

    // ---- Promises 35 to 40: rewriting ----

    private static void matches() {
        DependencyPairAnalyzer a = with("f(x,x)>x", "f(s(x),y)>y", "h(z)>z", "g(x,c(y,x))>y");
        due("parseTerm(0)", put(a, 0, "f(s(z),s(z))"), 5);
        due("matches(0, 0, 0)", a.matches(0, 0, 0), 1);
        due("matches(1, 0, 0)", a.matches(1, 0, 0), 1);
        due("matches(2, 0, 0)", a.matches(2, 0, 0), 0);
        due("matches(0, 0, 1)", a.matches(0, 0, 1), 0);
        due("matches(0, 0, 4)", a.matches(0, 0, 4), 0);
        due("parseTerm(1)", put(a, 1, "s(f(s(z),h(z)))"), 6);
        due("matches(0, 1, 1)", a.matches(0, 1, 1), 0);
        due("matches(1, 1, 1)", a.matches(1, 1, 1), 1);
        due("matches(2, 1, 4)", a.matches(2, 1, 4), 1);
        due("parseTerm(2)", put(a, 2, "g(s(x),c(w,s(x)))"), 7);
        due("matches(3, 2, 0)", a.matches(3, 2, 0), 1);
        due("parseTerm(2)", put(a, 2, "g(s(x),c(w,s(y)))"), 7);
        due("matches(3, 2, 0)", a.matches(3, 2, 0), 0);
        due("parseTerm(2)", put(a, 2, "f(x,y)"), 3);
        due("variables of the term stand for themselves", a.matches(0, 2, 0), 0);
        due("a variable is no s", a.matches(1, 2, 0), 0);
        due("parseTerm(2)", put(a, 2, "f(y,y)"), 3);
        due("matches(0, 2, 0)", a.matches(0, 2, 0), 1);
        for (int number : new int[] {-1, 4, LOW, HIGH}) {
            due("matches(" + number + ", 0, 0)", a.matches(number, 0, 0), -1);
            due("matches(0, " + number + ", 0)", a.matches(0, number, 0), -1);
        }
        for (int position : new int[] {-1, 5, 40, LOW, HIGH}) {
            due("matches(0, 0, " + position + ")", a.matches(0, 0, position), -1);
        }
    }

    private static void redexCount() {
        DependencyPairAnalyzer a = with("h(s(x))>x", "f(x,x)>x");
        due("redexCount(0)", a.redexCount(0), 0);
        due("parseTerm(0)", put(a, 0, "f(h(s(z)),h(s(z)))"), 7);
        due("redexCount(0)", a.redexCount(0), 3);
        due("parseTerm(0)", put(a, 0, "f(h(z),h(s(z)))"), 6);
        due("redexCount(0)", a.redexCount(0), 1);
        for (int register : NO_REGISTERS) {
            due("redexCount(" + register + ")", a.redexCount(register), -1);
        }
        DependencyPairAnalyzer b = with("h(x)>x", "h(s(x))>x");
        due("parseTerm(0)", put(b, 0, "h(s(h(h(z))))"), 5);
        due("a redex of two rules counts once", b.redexCount(0), 3);
    }

    private static void redexAt() {
        DependencyPairAnalyzer a = with("h(s(x))>x", "f(x,x)>x");
        due("parseTerm(2)", put(a, 2, "c(h(s(z)),f(h(s(x)),h(s(x))))"), 11);
        int[] positions = {1, 4, 5, 8, -5, -5};
        for (int index = 0; index < positions.length; index++) {
            due("redexAt(2, " + index + ")", a.redexAt(2, index), positions[index]);
        }
        due("redexAt(2, HIGH)", a.redexAt(2, HIGH), -5);
        due("redexAt(2, -1)", a.redexAt(2, -1), -1);
        due("redexAt(2, LOW)", a.redexAt(2, LOW), -1);
        due("redexAt(0, 0)", a.redexAt(0, 0), -5);
        due("redexAt(0, -1)", a.redexAt(0, -1), -1);
        for (int register : NO_REGISTERS) {
            due("redexAt(" + register + ", 0)", a.redexAt(register, 0), -1);
        }
    }

    private static void rewriteAt() {
        DependencyPairAnalyzer a = with("f(c(x,y),w)>c(w,f(y,x))", "f(x,y)>s(x)", "h(x)>c(c(x,x),c(x,x))");
        due("parseTerm(0)", put(a, 0, "s(f(c(z,s(z)),h(y)))"), 8);
        due("rewriteAt(0, 0)", a.rewriteAt(0, 0), -5);
        due("rewriteAt(0, 2)", a.rewriteAt(0, 2), -5);
        due("rewriteAt(0, 1) by the lowest rule", a.rewriteAt(0, 1), 8);
        due("register 0", shown(a, 0), "s(c(h(y),f(s(z),z)))");
        due("rewriteAt(0, 4) by the second rule", a.rewriteAt(0, 4), 7);
        due("register 0", shown(a, 0), "s(c(h(y),s(s(z))))");
        due("rewriteAt(0, 2)", a.rewriteAt(0, 2), 12);
        due("register 0", shown(a, 0), "s(c(c(c(y,y),c(y,y)),s(s(z))))");
        for (int position : new int[] {-1, 12, 40, LOW, HIGH}) {
            due("rewriteAt(0, " + position + ")", a.rewriteAt(0, position), -1);
        }
        for (int register : NO_REGISTERS) {
            due("rewriteAt(" + register + ", 0)", a.rewriteAt(register, 0), -1);
        }
        rewriteToTheLimit();
    }

    private static void rewriteToTheLimit() {
        DependencyPairAnalyzer a = with("h(x)>c(x,x)", "g(x,y)>y", "h(s(x))>z");
        due("parseTerm(0)", put(a, 0, "h(s(c(c(z,c(z,z)),c(c(z,z),c(z,c(z,z))))))"), 17);
        due("rewriteAt(0, 0)", a.rewriteAt(0, 0), 33);
        DependencyPairAnalyzer b = with("f(x,y)>c(x,x)", "h(x)>h(s(x))", "f(x,s(y))>z");
        due("parseTerm(0)", put(b, 0, "h(z)"), 2);
        due("rewriteOutermost(0, 37)", b.rewriteOutermost(0, 37), 37);
        due("rewriteAt(0, 0) to 40 symbols", b.rewriteAt(0, 0), 40);
        String full = shown(b, 0);
        due("rewriteAt(0, 0) to 41 symbols", b.rewriteAt(0, 0), -8);
        due("register 0 is kept", shown(b, 0), full);
        due("rewriteAt(0, 1)", b.rewriteAt(0, 1), -5);
        due("rewriteAt(0, 40)", b.rewriteAt(0, 40), -1);
        // The second matching rule would fit, but the step is that of the lowest one.
        DependencyPairAnalyzer c = with("f(x,y)>c(x,c(x,x))", "f(x,s(y))>z");
        due("parseTerm(0)", put(c, 0, "f(c(c(c(z,z),c(z,z)),c(z,c(z,z))),s(z))"), 16);
        due("rewriteAt(0, 0) to 41 symbols", c.rewriteAt(0, 0), -8);
        due("rewriteOutermost(0, 5)", c.rewriteOutermost(0, 5), 0);
        due("termSize(0)", c.termSize(0), 16);
    }

    private static void rewriteOutermost() {
        DependencyPairAnalyzer a = with(PLUS_TIMES);
        due("parseTerm(0)", put(a, 0, "g(s(s(z)),s(s(z)))"), 7);
        due("rewriteOutermost(0, 0)", a.rewriteOutermost(0, 0), 0);
        due("register 0", shown(a, 0), "g(s(s(z)),s(s(z)))");
        due("rewriteOutermost(0, 1)", a.rewriteOutermost(0, 1), 1);
        due("register 0", shown(a, 0), "f(s(s(z)),g(s(z),s(s(z))))");
        due("rewriteOutermost(0, 100)", a.rewriteOutermost(0, 100), 8);
        due("register 0", shown(a, 0), "s(s(s(s(z))))");
        due("rewriteOutermost(0, 100) of a normal form", a.rewriteOutermost(0, 100), 0);
        for (int limit : new int[] {-1, 101, LOW, HIGH}) {
            due("rewriteOutermost(0, " + limit + ")", a.rewriteOutermost(0, limit), -2);
        }
        for (int register : NO_REGISTERS) {
            due("rewriteOutermost(" + register + ", 1)", a.rewriteOutermost(register, 1), -1);
            due("rewriteOutermost(" + register + ", 101)", a.rewriteOutermost(register, 101), -1);
        }
        DependencyPairAnalyzer b = with("f(x,y)>z", "h(x)>h(x)");
        due("parseTerm(0)", put(b, 0, "f(h(z),h(z))"), 5);
        due("the outermost redex goes first", b.rewriteOutermost(0, 100), 1);
        due("parseTerm(0)", put(b, 0, "c(h(z),h(z))"), 5);
        due("a loop goes on to the limit", b.rewriteOutermost(0, 100), 100);
        // The outermost redex is impossible, so the possible inner one is not used.
        DependencyPairAnalyzer c = with("h(x)>c(x,c(x,x))", "f(x,y)>z");
        due("parseTerm(0)", put(c, 0, "h(c(c(c(z,z),c(z,z)),c(f(z,z),c(z,z))))"), 16);
        due("rewriteOutermost(0, 10)", c.rewriteOutermost(0, 10), 0);
        due("redexCount(0)", c.redexCount(0), 2);
    }

    private static void findLoop() {
        DependencyPairAnalyzer a = with("f(x,y)>f(y,x)", "h(s(x))>h(x)", "h(z)>h(s(s(z)))", "g(x,y)>g(x,s(y))");
        due("parseTerm(0)", put(a, 0, "f(z,s(z))"), 4);
        due("findLoop(0, 1)", a.findLoop(0, 1), -5);
        due("findLoop(0, 2)", a.findLoop(0, 2), 2);
        due("findLoop(0, 100)", a.findLoop(0, 100), 2);
        due("register 0 is kept", shown(a, 0), "f(z,s(z))");
        due("parseTerm(1)", put(a, 1, "f(x,x)"), 3);
        due("findLoop(1, 1)", a.findLoop(1, 1), 1);
        due("parseTerm(1)", put(a, 1, "h(s(s(s(s(z)))))"), 6);
        due("a loop that begins later", a.findLoop(1, 100), 5);
        due("findLoop(1, 4)", a.findLoop(1, 4), -5);
        due("findLoop(2, 100) of a normal form", a.findLoop(2, 100), -5);
        due("parseTerm(2)", put(a, 2, "g(z,z)"), 3);
        due("findLoop(2, 100) to an impossible step", a.findLoop(2, 100), -5);
        due("register 2 is kept", shown(a, 2), "g(z,z)");
        for (int limit : new int[] {0, -1, 101, LOW, HIGH}) {
            due("findLoop(0, " + limit + ")", a.findLoop(0, limit), -2);
        }
        for (int register : NO_REGISTERS) {
            due("findLoop(" + register + ", 1)", a.findLoop(register, 1), -1);
            due("findLoop(" + register + ", 0)", a.findLoop(register, 0), -1);
        }
        String nine = "s(s(s(s(s(s(s(s(s(z)))))))))";
        DependencyPairAnalyzer b = withArities(3, 2, 1,
                "f(s(x),y,w)>f(x,y,s(w))", "f(z,s(y),w)>f(w,y,z)", "f(z,z,w)>f(w," + nine + ",z)");
        due("parseTerm(0)", put(b, 0, "f(" + nine + "," + nine + ",z)"), 22);
        due("findLoop(0, 100) of ten times ten steps", b.findLoop(0, 100), 100);
        due("findLoop(0, 99)", b.findLoop(0, 99), -5);
    }

    // ---- Promises 41 to 45: exploration ----

    // Two normal forms, as the first rule of f matches only when its argument was rewritten before.
    private static final String[] TWO_FORMS = {"f(z,y)>z", "f(x,y)>s(s(y))", "h(z)>z"};

    private static void exploredCount() {
        DependencyPairAnalyzer a = with(TWO_FORMS);
        due("exploredCount(0, 30) of a normal form", a.exploredCount(0, 30), 1);
        due("parseTerm(0)", put(a, 0, "f(h(z),z)"), 4);
        due("exploredCount(0, 30)", a.exploredCount(0, 30), 4);
        for (int limit = 1; limit <= 4; limit++) {
            due("exploredCount(0, " + limit + ")", a.exploredCount(0, limit), limit);
        }
        due("register 0 is kept", shown(a, 0), "f(h(z),z)");
        due("parseTerm(1)", put(a, 1, "c(h(z),c(h(z),c(h(z),c(h(z),h(z)))))"), 14);
        due("exploredCount(1, 30) of 32 terms", a.exploredCount(1, 30), 30);
        due("parseTerm(1)", put(a, 1, "c(h(z),c(h(z),c(h(z),h(z))))"), 11);
        due("exploredCount(1, 30) of 16 terms", a.exploredCount(1, 30), 16);
        explorationRefuses(a);
        DependencyPairAnalyzer b = with("f(x,y)>f(y,x)");
        due("parseTerm(0)", put(b, 0, "f(z,s(z))"), 4);
        due("exploredCount(0, 30) of a loop", b.exploredCount(0, 30), 2);
        DependencyPairAnalyzer c = with("h(x)>c(x,c(x,x))", "f(x,y)>z");
        due("parseTerm(0)", put(c, 0, "h(c(c(c(z,z),c(z,z)),c(f(z,z),c(z,z))))"), 16);
        due("an impossible step gives no term", c.exploredCount(0, 30), 2);
    }

    private static void explorationRefuses(DependencyPairAnalyzer a) {
        for (int limit : new int[] {0, -1, 31, LOW, HIGH}) {
            due("exploredCount(0, " + limit + ")", a.exploredCount(0, limit), -2);
            due("exploredNormalForms(0, " + limit + ")", a.exploredNormalForms(0, limit), -2);
            due("lastExploredSize(0, " + limit + ")", a.lastExploredSize(0, limit), -2);
            due("loadNormalForm(0, " + limit + ", 1)", a.loadNormalForm(0, limit, 1), -2);
        }
        for (int register : NO_REGISTERS) {
            for (int limit : new int[] {1, 0, 31}) {
                due("exploredCount(" + register + ")", a.exploredCount(register, limit), -1);
                due("exploredNormalForms(" + register + ")", a.exploredNormalForms(register, limit), -1);
                due("lastExploredSize(" + register + ")", a.lastExploredSize(register, limit), -1);
                due("loadNormalForm(" + register + ")", a.loadNormalForm(register, limit, 1), -1);
                due("loadNormalForm to " + register, a.loadNormalForm(0, limit, register), -1);
            }
        }
    }

    private static void exploredNormalForms() {
        DependencyPairAnalyzer a = with(TWO_FORMS);
        due("exploredNormalForms(0, 1) of a normal form", a.exploredNormalForms(0, 1), 1);
        due("parseTerm(0)", put(a, 0, "f(h(z),z)"), 4);
        // First the term itself, then f(z,z) and s(s(z)) are known: f(z,z) is the lower one, then z, then s(s(z)).
        int[] forms = {0, 0, 1, 2, 2};
        for (int limit = 1; limit <= 5; limit++) {
            due("exploredNormalForms(0, " + limit + ")", a.exploredNormalForms(0, limit), forms[limit - 1]);
        }
        explorationRefuses(a);
        DependencyPairAnalyzer b = with("h(x)>h(s(x))");
        due("parseTerm(0)", put(b, 0, "h(z)"), 2);
        due("exploredNormalForms(0, 30)", b.exploredNormalForms(0, 30), 0);
        due("rewriteOutermost(0, 38)", b.rewriteOutermost(0, 38), 38);
        due("a term whose steps are impossible is no normal form", b.exploredNormalForms(0, 30), 0);
        due("exploredCount(0, 30)", b.exploredCount(0, 30), 1);
    }

    private static void lastExploredSize() {
        DependencyPairAnalyzer a = with(TWO_FORMS);
        due("parseTerm(0)", put(a, 0, "f(h(z),z)"), 4);
        int[] sizes = {4, 3, 1, 3, 3};
        for (int limit = 1; limit <= 5; limit++) {
            due("lastExploredSize(0, " + limit + ")", a.lastExploredSize(0, limit), sizes[limit - 1]);
        }
        explorationRefuses(a);
        DependencyPairAnalyzer b = with("h(x)>h(s(x))");
        due("parseTerm(0)", put(b, 0, "h(z)"), 2);
        for (int limit = 1; limit <= 30; limit++) {
            due("lastExploredSize(0, " + limit + ")", b.lastExploredSize(0, limit), limit + 1);
        }
    }

    private static void loadNormalForm() {
        DependencyPairAnalyzer a = with(TWO_FORMS);
        due("parseTerm(0)", put(a, 0, "f(h(z),z)"), 4);
        due("parseTerm(2)", put(a, 2, "s(x)"), 2);
        due("loadNormalForm(0, 2, 2)", a.loadNormalForm(0, 2, 2), -5);
        due("register 2 is kept", shown(a, 2), "s(x)");
        due("loadNormalForm(0, 3, 2)", a.loadNormalForm(0, 3, 2), 1);
        due("register 2", shown(a, 2), "z");
        due("loadNormalForm(0, 30, 2)", a.loadNormalForm(0, 30, 2), 1);
        due("register 0 is kept", shown(a, 0), "f(h(z),z)");
        explorationRefuses(a);
        due("loadNormalForm(0, 30, 0)", a.loadNormalForm(0, 30, 0), 1);
        due("register 0", shown(a, 0), "z");
        // The higher normal form is found first here: the lower one comes from a higher term.
        DependencyPairAnalyzer b = with("h(z)>s(s(z))", "f(z,y)>g(y,y)", "f(x,y)>s(s(s(z)))", "g(x,y)>x", "h(s(x))>z");
        due("parseTerm(0)", put(b, 0, "f(h(s(x)),y)"), 5);
        due("loadNormalForm(0, 2, 1)", b.loadNormalForm(0, 2, 1), -5);
        due("loadNormalForm(0, 30, 1)", b.loadNormalForm(0, 30, 1), 1);
        due("register 1", shown(b, 1), "y");
        due("exploredNormalForms(0, 30)", b.exploredNormalForms(0, 30), 2);
    }

    private static void normalFormRegisterCount() {
        DependencyPairAnalyzer a = with("h(s(x))>x");
        due("normalFormRegisterCount()", a.normalFormRegisterCount(), 4);
        due("parseTerm(0)", put(a, 0, "s(h(s(z)))"), 4);
        due("normalFormRegisterCount()", a.normalFormRegisterCount(), 3);
        due("parseTerm(1)", put(a, 1, "h(z)"), 2);
        due("normalFormRegisterCount()", a.normalFormRegisterCount(), 3);
        due("copyTerm(0, 3)", a.copyTerm(0, 3), 4);
        due("copyTerm(0, 2)", a.copyTerm(0, 2), 4);
        due("normalFormRegisterCount()", a.normalFormRegisterCount(), 1);
        due("addRule()", add(a, "h(z)>z"), 1);
        due("normalFormRegisterCount()", a.normalFormRegisterCount(), 0);
        due("removeRule(0)", a.removeRule(0), 1);
        due("normalFormRegisterCount()", a.normalFormRegisterCount(), 3);
        due("normalFormRegisterCount() without rules", fresh().normalFormRegisterCount(), 4);
    }

    // ---- Promises 46 to 50: text and snapshot ----

    private static void appendCharacter() {
        DependencyPairAnalyzer a = fresh();
        for (int character : new int[] {31, 127, 0, -1, LOW, HIGH, 256 + 'z'}) {
            due("appendCharacter(" + character + ")", a.appendCharacter(character), -2);
        }
        due("textLength()", a.textLength(), 0);
        due("appendCharacter(32)", a.appendCharacter(32), 1);
        due("appendCharacter(126)", a.appendCharacter(126), 2);
        for (int length = 3; length <= 80; length++) {
            due("appendCharacter(z)", a.appendCharacter('z'), length);
        }
        due("appendCharacter(z) to a full text", a.appendCharacter('z'), -4);
        due("appendCharacter(31) to a full text", a.appendCharacter(31), -2);
        due("textLength()", a.textLength(), 80);
        due("parseTerm(0)", a.parseTerm(0), -100);
        due("appendCharacter(z)", a.appendCharacter('z'), 1);
        due("parseTerm(0)", a.parseTerm(0), 1);
    }

    private static void clearText() {
        DependencyPairAnalyzer a = fresh();
        due("clearText()", a.clearText(), 0);
        type(a, "s(z)");
        due("clearText()", a.clearText(), 4);
        due("textLength()", a.textLength(), 0);
        due("clearText()", a.clearText(), 0);
        due("parseTerm(0)", put(a, 0, "h(z)"), 2);
    }

    private static void textLength() {
        DependencyPairAnalyzer a = fresh();
        due("textLength()", a.textLength(), 0);
        for (int length = 1; length <= 80; length++) {
            due("appendCharacter(x)", a.appendCharacter('x'), length);
            due("textLength()", a.textLength(), length);
        }
        due("appendCharacter(x)", a.appendCharacter('x'), -4);
        due("textLength()", a.textLength(), 80);
        due("addRule()", a.addRule(), -101);
        due("textLength()", a.textLength(), 0);
    }

    private static void saveSnapshot() {
        DependencyPairAnalyzer a = fresh();
        due("saveSnapshot()", a.saveSnapshot(), 0);
        due("addRule()", add(a, "h(x)>x"), 0);
        due("addRule()", add(a, "f(x,y)>h(x)"), 1);
        due("restoreSnapshot()", a.restoreSnapshot(), 0);
        due("addRule()", add(a, "h(s(x))>x"), 0);
        due("saveSnapshot()", a.saveSnapshot(), 1);
        due("removeRule(0)", a.removeRule(0), 0);
        due("restoreSnapshot() of the later one", a.restoreSnapshot(), 1);
        due("left side", left(a, 0), "h(s(x))");
        due("addRule()", add(a, "h(z)>z"), 1);
        due("saveSnapshot()", a.saveSnapshot(), 2);
    }

    private static void restoreSnapshot() {
        DependencyPairAnalyzer a = fresh();
        due("restoreSnapshot()", a.restoreSnapshot(), -3);
        due("setArity(0, 3)", a.setArity(0, 3), 2);
        due("setArity(2, 2)", a.setArity(2, 2), 1);
        due("parseTerm(1)", put(a, 1, "f(x,h(z,y),z)"), 6);
        due("addRule()", add(a, "h(s(x),y)>h(x,y)"), 0);
        due("pairCount()", a.pairCount(), 1);
        due("saveSnapshot()", a.saveSnapshot(), 1);
        due("removeRule(0)", a.removeRule(0), 0);
        due("setArity(0, 1)", a.setArity(0, 1), 3);
        due("setArity(2, 1)", a.setArity(2, 1), 2);
        due("parseTerm(2)", put(a, 2, "f(z)"), 2);
        due("addRule()", add(a, "h(x)>z"), 0);
        due("addRule()", add(a, "f(x)>f(x)"), 1);
        due("terminatesBySizeChange()", a.terminatesBySizeChange(), 0);
        due("remainingPairCount()", a.remainingPairCount(), 1);
        type(a, "s(z)");
        for (int round = 0; round < 2; round++) {
            due("restoreSnapshot()", a.restoreSnapshot(), 1);
            due("textLength() is kept", a.textLength(), 4);
            due("arity(0)", a.arity(0), 3);
            due("arity(2)", a.arity(2), 2);
            due("ruleCount()", a.ruleCount(), 1);
            due("register 1", shown(a, 1), "f(x,h(z,y),z)");
            due("register 2", shown(a, 2), "z");
            due("terminatesBySizeChange()", a.terminatesBySizeChange(), 1);
            due("remainingPairCount()", a.remainingPairCount(), 0);
            due("componentCount()", a.componentCount(), 1);
            due("projection(0)", a.projection(0), 111);
            due("sizeRelation(0, 1, 1)", a.sizeRelation(0, 1, 1), 1);
            due("copyTerm(0, 1)", a.copyTerm(0, 1), 1);
            due("removeRule(0)", a.removeRule(0), 0);
            due("closureSize()", a.closureSize(), 0);
        }
        due("parseTerm(0)", a.parseTerm(0), 2);
    }

    private static void promisesOfRulesAndPairs(int number) {
        switch (number) {
            case 1 -> newObject();
            case 2 -> setArity();
            case 3 -> arity();
            case 4 -> addRule();
            case 5 -> removeRule();
            case 6 -> ruleCount();
            case 7 -> leftSize();
            case 8 -> rightSize();
            case 9 -> pairCount();
            case 10 -> pairRule();
            case 11 -> pairPosition();
            case 12 -> sourceFunction();
            case 13 -> targetFunction();
            case 14 -> hasEdge();
            case 15 -> edgeCount();
            case 16 -> componentCount();
            case 17 -> componentOf();
            case 18 -> sizeRelation();
            case 19 -> closureSize();
            case 20 -> idempotentCount();
            case 21 -> terminatesBySizeChange();
            case 22 -> projection();
            case 23 -> eliminationRounds();
            case 24 -> remainingPairCount();
            case 25 -> remainingComponentCount();
            default -> terminatesBySubtermCriterion();
        }
    }

    private static void promisesOfTermsAndText(int number) {
        switch (number) {
            case 27 -> parseTerm();
            case 28 -> termSize();
            case 29 -> formattedLength();
            case 30 -> formattedCharacter();
            case 31 -> compareTerms();
            case 32 -> copyTerm();
            case 33 -> loadLeft();
            case 34 -> loadRight();
            case 35 -> matches();
            case 36 -> redexCount();
            case 37 -> redexAt();
            case 38 -> rewriteAt();
            case 39 -> rewriteOutermost();
            case 40 -> findLoop();
            case 41 -> exploredCount();
            case 42 -> exploredNormalForms();
            case 43 -> lastExploredSize();
            case 44 -> loadNormalForm();
            case 45 -> normalFormRegisterCount();
            case 46 -> appendCharacter();
            case 47 -> clearText();
            case 48 -> textLength();
            case 49 -> saveSnapshot();
            default -> restoreSnapshot();
        }
    }

    public static void main(String[] args) {
        for (promise = 1; promise <= 50; promise++) {
            if (promise <= 26) {
                promisesOfRulesAndPairs(promise);
            } else {
                promisesOfTermsAndText(promise);
            }
        }
        System.out.println(wrong == 0 ? "all answers are as due" : wrong + " answers are not as due");
        if (wrong != 0) {
            System.exit(1);
        }
    }
}
