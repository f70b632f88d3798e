/** The five examples of the document's description. */
public final class ExampleTest {
    private static int wrong = 0;

    private static void due(String call, int got, int want) {
        if (got != want) {
            wrong++;
            System.out.println(call + " answered " + got + ", due is " + want);
        }
    }

    private static void type(DependencyPairAnalyzer analyzer, String text) {
        for (int i = 0; i < text.length(); i++) {
            due("appendCharacter of " + text, analyzer.appendCharacter(text.charAt(i)), i + 1);
        }
    }

    private static void ruleWithOnePair() {
        DependencyPairAnalyzer analyzer = new DependencyPairAnalyzer();
        type(analyzer, "h(s(x))>h(x)");
        due("1: addRule()", analyzer.addRule(), 0);
        due("1: pairCount()", analyzer.pairCount(), 1);
        due("1: sizeRelation(0, 0, 0)", analyzer.sizeRelation(0, 0, 0), 2);
    }

    private static void ruleThatCallsItself() {
        DependencyPairAnalyzer analyzer = new DependencyPairAnalyzer();
        type(analyzer, "h(x)>h(x)");
        due("2: addRule()", analyzer.addRule(), 0);
        due("2: closureSize()", analyzer.closureSize(), 1);
        due("2: terminatesBySizeChange()", analyzer.terminatesBySizeChange(), 0);
        due("2: projection(0)", analyzer.projection(0), -5);
        due("2: remainingPairCount()", analyzer.remainingPairCount(), 1);
    }

    private static void variableOnTheRightOnly() {
        DependencyPairAnalyzer analyzer = new DependencyPairAnalyzer();
        type(analyzer, "h(x)>y");
        due("3: addRule()", analyzer.addRule(), -6);
        due("3: textLength()", analyzer.textLength(), 0);
        due("3: loadLeft(0, 0)", analyzer.loadLeft(0, 0), -1);
    }

    private static void missingBracket() {
        DependencyPairAnalyzer analyzer = new DependencyPairAnalyzer();
        type(analyzer, "f(z,s(z)");
        due("4: parseTerm(0)", analyzer.parseTerm(0), -108);
        type(analyzer, "f(z,z)");
        due("4: parseTerm(0)", analyzer.parseTerm(0), 3);
    }

    private static void rewritingStep() {
        DependencyPairAnalyzer analyzer = new DependencyPairAnalyzer();
        type(analyzer, "h(z)>z");
        due("5: addRule()", analyzer.addRule(), 0);
        type(analyzer, "h(z)");
        due("5: parseTerm(1)", analyzer.parseTerm(1), 2);
        due("5: redexCount(1)", analyzer.redexCount(1), 1);
        due("5: rewriteAt(1, 1)", analyzer.rewriteAt(1, 1), -5);
        due("5: rewriteAt(1, 0)", analyzer.rewriteAt(1, 0), 1);
    }

    public static void main(String[] args) {
        ruleWithOnePair();
        ruleThatCallsItself();
        variableOnTheRightOnly();
        missingBracket();
        rewritingStep();
        System.out.println(wrong == 0 ? "all answers are as due" : wrong + " answers are not as due");
        if (wrong != 0) {
            System.exit(1);
        }
    }
}
