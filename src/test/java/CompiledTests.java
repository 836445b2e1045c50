import java.io.File;
import java.io.PrintWriter;
import java.io.StringWriter;
import java.net.URISyntaxException;
import java.util.ArrayList;
import java.util.Arrays;
import java.util.LinkedHashMap;
import java.util.List;
import java.util.Map;
import java.util.Optional;
import java.util.Set;
import java.util.TreeSet;
import java.util.regex.Matcher;
import java.util.regex.Pattern;
import java.util.spi.ToolProvider;

/**
 * Those rules of LANGUAGE.md that only the compiled program shows: how deep calls go, that none comes
 * back to itself, what of the library is called, and that calls make nothing.
 */
public final class CompiledTests {
    private static final int DEEPEST = 8;
    private static final Optional<ToolProvider> JAVAP = ToolProvider.findFirst("javap");
    private static final Set<String> LIBRARY = new TreeSet<>(Arrays.asList(
        "java/lang/Object.<init>", "java/lang/Math.abs", "java/lang/Math.max", "java/lang/Math.min",
        "java/lang/Math.floorDiv", "java/lang/System.arraycopy", "java/util/Arrays.fill",
        "java/lang/String.length", "java/lang/String.charAt"));
    private static final Pattern HEAD = Pattern.compile("^  (?:\\S.* )?([\\w$]+)\\(.*\\);$");
    private static final Pattern CALL = Pattern.compile(" invoke\\w+ .*// (?:Interface)?Method (\\S+?):");
    private static final Pattern MAKES = Pattern.compile(": (new|newarray|anewarray|multianewarray|invokedynamic) ");

    private final Kit kit = new Kit("CompiledTests");
    /** By each method (its class, a dot, its name; overloaded ones as one) those that it calls. */
    private final Map<String, Set<String>> calls = new LinkedHashMap<>();

    public static void main(String[] args) throws URISyntaxException {
        CompiledTests tests = new CompiledTests();
        if (JAVAP.isEmpty()) {
            System.out.println("CompiledTests: this JDK has no javap, nothing was looked at");
            return;
        }
        tests.readAll();
        tests.depth();
        tests.library();
        tests.kit.finish();
    }

    private void readAll() throws URISyntaxException {
        File folderOfAll = new File(FringeBench.class.getProtectionDomain().getCodeSource().getLocation().toURI());
        File[] files = folderOfAll.listFiles((folder, name) -> name.matches("FringeBench(\\$.*)?\\.class"));
        kit.due("classes", files != null && files.length > 1, true);
        for (File file : files) {
            StringWriter listing = new StringWriter();
            PrintWriter out = new PrintWriter(listing);
            int code = JAVAP.get().run(out, out, "-c", "-p", file.getPath());
            kit.due("javap of " + file.getName(), code, 0);
            readOne(file.getName().replace(".class", ""), listing.toString());
        }
    }

    private void readOne(String name, String listing) {
        String method = "";
        for (String line : listing.split("\\R")) {
            Matcher head = HEAD.matcher(line);
            Matcher call = CALL.matcher(line);
            if (head.find()) {
                method = name + "." + (head.group(1).equals(name) ? "<init>" : head.group(1));
                calls.putIfAbsent(method, new TreeSet<>());
            } else if (call.find()) {
                String called = call.group(1).replace("\"", "");
                calls.get(method).add(called.contains(".") ? called : name + "." + called);
            } else if (MAKES.matcher(line).find()) {
                kit.due(method + " makes nothing", method.endsWith(".<init>"), true);
            }
        }
    }

    private void depth() {
        for (String method : calls.keySet()) {
            kit.due(method + " goes as deep", depthOf(method, new ArrayList<>()) <= DEEPEST, true);
        }
    }

    private int depthOf(String method, List<String> open) {
        if (open.contains(method)) {
            kit.due(open + " come back to " + method, 1, 0);
            return 0;
        }
        open.add(method);
        int deepest = 0;
        for (String called : calls.getOrDefault(method, Set.of())) {
            deepest = Math.max(deepest, depthOf(called, open));
        }
        open.remove(method);
        return deepest + 1;
    }

    private void library() {
        for (Set<String> called : calls.values()) {
            for (String one : called) {
                kit.due(one + " may be called", calls.containsKey(one) || LIBRARY.contains(one), true);
            }
        }
    }
}
