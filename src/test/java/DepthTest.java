import java.io.PrintWriter;
import java.io.StringWriter;
import java.util.ArrayList;
import java.util.HashMap;
import java.util.LinkedHashSet;
import java.util.List;
import java.util.Map;
import java.util.Set;
import java.util.regex.Matcher;
import java.util.regex.Pattern;
import java.util.spi.ToolProvider;

/** Calls go at most eight deep, the public method and the library's functions counted, and no method recurs. */
public final class DepthTest {
    private static final int DEEPEST = 8;
    private static final Pattern CALL = Pattern.compile("// (?:Interface)?Method (?:(\\S+?)\\.)?(\"<init>\"|\\w+):(\\S+)");
    private static final Pattern HEAD = Pattern.compile("^  [^ ].*?([\\w$.]+)\\((.*)\\);$");
    private static final Pattern SHAPE = Pattern.compile("^    descriptor: (\\S+)$");

    private static final Map<String, Set<String>> CALLS = new HashMap<>();
    private static final Map<String, Integer> DEPTHS = new HashMap<>();
    private static int wrong = 0;

    private static String javap(List<String> classes) {
        List<String> arguments = new ArrayList<>(
                List.of("-p", "-c", "-s", "-cp", System.getProperty("java.class.path")));
        arguments.addAll(classes);
        StringWriter out = new StringWriter();
        ToolProvider tool = ToolProvider.findFirst("javap").orElseThrow();
        tool.run(new PrintWriter(out), new PrintWriter(out), arguments.toArray(new String[0]));
        return out.toString();
    }

    private static void read(String type) {
        String name = "";
        String method = "";
        for (String line : javap(List.of(type)).split("\n")) {
            Matcher head = HEAD.matcher(line);
            Matcher shape = SHAPE.matcher(line);
            Matcher call = CALL.matcher(line);
            if (head.find()) {
                name = head.group(1).equals(type) ? "\"<init>\"" : head.group(1);
            } else if (shape.find()) {
                method = type + "." + name + ":" + shape.group(1);
                CALLS.put(method, new LinkedHashSet<>());
            } else if (call.find()) {
                String owner = call.group(1) == null ? type : call.group(1);
                CALLS.get(method).add(owner + "." + call.group(2) + ":" + call.group(3));
            }
        }
    }

    private static int depth(String method, List<String> open) {
        if (open.contains(method)) {
            wrong++;
            System.out.println("recursion: " + open + " " + method);
            return 0;
        }
        Integer known = DEPTHS.get(method);
        if (known != null) {
            return known;
        }
        open.add(method);
        int deepest = 0;
        for (String called : CALLS.getOrDefault(method, Set.of())) {
            deepest = Math.max(deepest, depth(called, open));
        }
        open.remove(method);
        DEPTHS.put(method, deepest + 1);
        return deepest + 1;
    }

    public static void main(String[] args) {
        read("DependencyPairAnalyzer");
        for (Class<?> nested : DependencyPairAnalyzer.class.getDeclaredClasses()) {
            read(nested.getName());
        }
        int deepest = 0;
        for (String method : CALLS.keySet()) {
            int depth = depth(method, new ArrayList<>());
            deepest = Math.max(deepest, depth);
            if (depth > DEEPEST) {
                wrong++;
                System.out.println(method + " goes " + depth + " deep");
            }
        }
        if (CALLS.size() < 100 || deepest < 5) {
            wrong++;
            System.out.println("the calls could not be read: " + CALLS.size() + " methods, " + deepest + " deep");
        }
        System.out.println(CALLS.size() + " methods, at most " + deepest + " deep");
        if (wrong != 0) {
            System.exit(1);
        }
    }
}
