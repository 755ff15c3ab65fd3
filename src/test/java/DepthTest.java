import java.io.File;
import java.io.PrintWriter;
import java.io.StringWriter;
import java.net.URISyntaxException;
import java.util.ArrayList;
import java.util.HashMap;
import java.util.List;
import java.util.Map;
import java.util.Set;
import java.util.TreeMap;
import java.util.TreeSet;
import java.util.regex.Matcher;
import java.util.regex.Pattern;
import java.util.spi.ToolProvider;

/** Rule 11 of LANGUAGE.md: calls go at most eight deep, those of the library counted, and no method calls itself. */
public final class DepthTest {
    private static final Pattern METHOD = Pattern.compile("  .*?([\\w.$]+)\\(.*\\).*;");
    private static final Pattern CALL = Pattern.compile("invoke\\w+ .*// (?:Interface)?Method ([^:]+):");
    private static final Map<String, Set<String>> CALLED = new TreeMap<>();
    private static final Map<String, Integer> DEPTH = new HashMap<>();

    public static void main(String[] args) throws URISyntaxException {
        File place = new File(HiddenExits.class.getProtectionDomain().getCodeSource().getLocation().toURI());
        for (File file : place.listFiles()) {
            String name = file.getName();
            if (name.matches("HiddenExits(\\$\\w+)?\\.class")) {
                readCalls(name.replace(".class", ""), file.getPath());
            }
        }
        int wrong = CALLED.size() < 80 ? 1 : 0;
        int deepest = 0;
        for (String method : CALLED.keySet()) {
            int depth = depth(method, new ArrayList<>());
            deepest = Math.max(deepest, depth);
            if (depth > 8) {
                wrong++;
                System.out.println("calls go " + depth + " deep from " + method);
            }
        }
        System.out.println("the calls of " + CALLED.size() + " methods go at most " + deepest + " deep");
        System.exit(wrong == 0 ? 0 : 1);
    }

    private static void readCalls(String owner, String file) {
        StringWriter text = new StringWriter();
        ToolProvider.findFirst("javap").orElseThrow().run(new PrintWriter(text), new PrintWriter(text), "-c", "-p", file);
        String method = "";
        for (String line : text.toString().split("\n")) {
            Matcher head = METHOD.matcher(line);
            Matcher call = CALL.matcher(line);
            if (call.find()) {
                String target = call.group(1).replace("\"", "").replace('/', '.');
                CALLED.get(method).add(target.contains(".") ? target : owner + "." + target);
            } else if (line.startsWith("  ") && !line.startsWith("   ") && head.matches()) {
                String name = head.group(1);
                method = owner + "." + (name.equals(owner) ? "<init>" : name);
                CALLED.putIfAbsent(method, new TreeSet<>());
            }
        }
    }

    private static int depth(String method, List<String> open) {
        if (open.contains(method)) {
            System.out.println(method + " calls itself, over " + open);
            return 100;
        }
        if (!DEPTH.containsKey(method)) {
            open.add(method);
            int below = 0;
            for (String called : CALLED.getOrDefault(method, Set.of())) {
                below = Math.max(below, depth(called, open));
            }
            open.remove(method);
            DEPTH.put(method, below + 1);
        }
        return DEPTH.get(method);
    }
}
