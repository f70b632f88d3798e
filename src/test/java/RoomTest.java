import java.lang.management.ManagementFactory;

/** No call makes an object or an array: all calls of a run live in the rows that the constructor makes. */
public final class RoomTest {
    private static final String[] RULES = {
        "f(x,y,w)>f(y,w,x)", "f(s(x),y,w)>f(x,x,w)", "g(x,y)>f(h(x),h(y),g(y,x))", "h(x)>s(x)", "h(s(x))>h(x)"
    };
    private static final String TERM = "g(c(h(z),h(z)),c(h(s(z)),c(h(x),c(h(h(z)),f(h(z),z,z)))))";

    private static int sum = 0;

    private static void type(DependencyPairAnalyzer a, String text) {
        for (int i = 0; i < text.length(); i++) {
            sum += a.appendCharacter(text.charAt(i));
        }
    }

    private static void fill(DependencyPairAnalyzer a) {
        sum += a.clearText() + a.setArity(0, 3);
        for (int i = 0; i < RULES.length; i++) {
            type(a, RULES[i]);
            sum += a.addRule();
        }
        type(a, TERM);
        sum += a.parseTerm(0);
    }

    private static void analyze(DependencyPairAnalyzer a) {
        sum += a.ruleCount() + a.leftSize(0) + a.rightSize(0) + a.arity(0) + a.pairCount() + a.pairRule(0);
        sum += a.pairPosition(0) + a.sourceFunction(0) + a.targetFunction(0) + a.hasEdge(0, 1) + a.edgeCount();
        sum += a.componentCount() + a.componentOf(0) + a.sizeRelation(0, 0, 0) + a.closureSize();
        sum += a.idempotentCount() + a.terminatesBySizeChange() + a.projection(0) + a.eliminationRounds();
        sum += a.remainingPairCount() + a.remainingComponentCount() + a.terminatesBySubtermCriterion();
    }

    private static void rewrite(DependencyPairAnalyzer a) {
        sum += a.termSize(0) + a.formattedLength(0) + a.formattedCharacter(0, 3) + a.compareTerms(0, 1);
        sum += a.copyTerm(0, 1) + a.loadLeft(0, 2) + a.loadRight(0, 3) + a.matches(0, 0, 0) + a.redexCount(0);
        sum += a.redexAt(0, 2) + a.findLoop(0, 100) + a.exploredCount(0, 30) + a.exploredNormalForms(0, 30);
        sum += a.lastExploredSize(0, 30) + a.loadNormalForm(0, 30, 1) + a.normalFormRegisterCount();
        sum += a.rewriteAt(1, 2) + a.rewriteOutermost(1, 100) + a.textLength();
    }

    private static void round(DependencyPairAnalyzer a) {
        fill(a);
        analyze(a);
        rewrite(a);
        sum += a.saveSnapshot() + a.restoreSnapshot();
        analyze(a);
        for (int rules = RULES.length; rules > 0; rules--) {
            sum += a.removeRule(0);
        }
        analyze(a);
    }

    public static void main(String[] args) {
        com.sun.management.ThreadMXBean threads =
                (com.sun.management.ThreadMXBean) ManagementFactory.getThreadMXBean();
        long thread = Thread.currentThread().getId();
        DependencyPairAnalyzer analyzer = new DependencyPairAnalyzer();
        round(analyzer);
        long before = threads.getThreadAllocatedBytes(thread);
        long none = threads.getThreadAllocatedBytes(thread);
        for (int i = 0; i < 20; i++) {
            round(analyzer);
        }
        long after = threads.getThreadAllocatedBytes(thread);
        long made = (after - none) - (none - before);
        long constructed = threads.getThreadAllocatedBytes(thread);
        analyzer = new DependencyPairAnalyzer();
        constructed = threads.getThreadAllocatedBytes(thread) - constructed;
        sum += analyzer.ruleCount();
        System.out.println("calls made " + made + " bytes, a new object " + constructed + " bytes (" + sum + ")");
        if (made > 0 || constructed > 200_000) {
            System.exit(1);
        }
    }
}
