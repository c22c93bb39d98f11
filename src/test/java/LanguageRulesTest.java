import com.sun.source.tree.CompilationUnitTree;
import com.sun.source.util.JavacTask;
import com.sun.source.util.Trees;
import java.nio.file.Path;
import java.util.List;
import java.util.Map;
import java.util.Set;
import java.util.TreeMap;
import java.util.TreeSet;
import javax.tools.JavaCompiler;
import javax.tools.StandardJavaFileManager;
import javax.tools.ToolProvider;

/**
 * The rules of ../shared/LANGUAGE.md that a compiler's tree can show, held against the class's source. Some are
 * held more strictly than they are written, as the class has no need of what they would leave.
 */
public final class LanguageRulesTest {
    private static final Path SOURCE = Path.of("src", "main", "java", "ClodDesk.java");
    private static final Checks CHECKS = new Checks("LanguageRulesTest");

    /** Rule 11: "calls that are no recursion go at most eight deep". */
    private static final int MOST_DEEP = 8;

    /** Rule 8: what may call itself, each kept low by a limit of the document (8 brackets, 3 bores). */
    private static final Set<Set<String>> RECURSIONS = Set.of(
        Set.of("KeyReader.readEither", "KeyReader.readBoth", "KeyReader.readMaybeNot", "KeyReader.readBracket",
            "KeyReader.readOfBore"),
        Set.of("Planner.search", "Planner.tryCell"));

    public static void main(String[] args) throws Exception {
        SourceRules rules = scan();
        for (String broken : rules.broken) {
            CHECKS.due(broken, 1, 0);
        }
        CHECKS.due("the scan saw the face", rules.calls.containsKey("ClodDesk.look"), true);
        CHECKS.due("the scan saw a call", rules.calls.get("ClodDesk.look").contains("Land.hasCell"), true);
        CHECKS.due("classes (12 at most): " + rules.classes, rules.classes.size() <= 12, true);
        recursionIsKnown(rules.calls);
        callsAreNotDeep(rules.calls);
        CHECKS.end();
    }

    private static SourceRules scan() throws Exception {
        JavaCompiler compiler = ToolProvider.getSystemJavaCompiler();
        try (StandardJavaFileManager files = compiler.getStandardFileManager(null, null, null)) {
            JavacTask task = (JavacTask) compiler.getTask(null, files, null, List.of("-proc:none"), null,
                files.getJavaFileObjects(SOURCE));
            Iterable<? extends CompilationUnitTree> units = task.parse();
            task.analyze();
            SourceRules rules = new SourceRules(Trees.instance(task));
            for (CompilationUnitTree unit : units) {
                rules.scan(unit, null);
            }
            return rules;
        }
    }

    private static Set<String> reached(Map<String, Set<String>> calls, String from) {
        Set<String> found = new TreeSet<>();
        List<String> open = new java.util.ArrayList<>(calls.getOrDefault(from, Set.of()));
        while (!open.isEmpty()) {
            String next = open.remove(open.size() - 1);
            if (found.add(next)) {
                open.addAll(calls.getOrDefault(next, Set.of()));
            }
        }
        return found;
    }

    /** Those that call one another, by each of them. */
    private static Map<String, Set<String>> rings(Map<String, Set<String>> calls) {
        Map<String, Set<String>> rings = new TreeMap<>();
        for (String method : calls.keySet()) {
            Set<String> ring = new TreeSet<>(reached(calls, method));
            ring.removeIf(other -> !reached(calls, other).contains(method));
            if (!ring.isEmpty()) {
                rings.put(method, ring);
            }
        }
        return rings;
    }

    private static void recursionIsKnown(Map<String, Set<String>> calls) {
        Map<String, Set<String>> rings = rings(calls);
        for (Set<String> ring : rings.values()) {
            CHECKS.due("a recursion that is known: " + ring, RECURSIONS.contains(ring), true);
        }
        CHECKS.due("the scan saw both recursions", Set.copyOf(rings.values()).size(), RECURSIONS.size());
    }

    private static void callsAreNotDeep(Map<String, Set<String>> calls) {
        Map<String, Set<String>> rings = rings(calls);
        for (String method : calls.keySet()) {
            int deep = deepest(calls, rings, method);
            CHECKS.due("calls of " + method + " go " + deep + " deep", deep <= MOST_DEEP, true);
        }
    }

    /** How many calls stand open at most, a recursion being one of them. */
    private static int deepest(Map<String, Set<String>> calls, Map<String, Set<String>> rings, String method) {
        Set<String> ring = rings.getOrDefault(method, Set.of(method));
        int below = 0;
        for (String one : ring) {
            for (String called : calls.getOrDefault(one, Set.of())) {
                below = ring.contains(called) ? below : Math.max(below, deepest(calls, rings, called));
            }
        }
        return 1 + below;
    }
}
