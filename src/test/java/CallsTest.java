import java.io.IOException;
import java.nio.file.Files;
import java.nio.file.Path;
import java.util.HashMap;
import java.util.HashSet;
import java.util.LinkedHashMap;
import java.util.Map;
import java.util.Set;
import java.util.regex.Matcher;
import java.util.regex.Pattern;

/** Rules 4, 8 and 11 of LANGUAGE.md, read from the source: whom each method calls, and how deep that goes. */
public final class CallsTest {
    private static final Pattern CLASS = Pattern.compile(" {4}private static final class (\\w+) \\{");
    private static final Pattern METHOD = Pattern.compile("( {4}| {8})(?:(?:public|private|static) )*[\\w\\[\\]]+ (\\w+)\\([^;=]*\\) \\{");
    private static final Pattern CALL = Pattern.compile("(?<!new )(?<![\\w.])([A-Z]\\w*\\.)?(\\w+)\\(|\\.(\\w+)\\(");
    private static final Set<String> WORDS = Set.of("if", "for", "while", "switch", "return");
    private static final Set<String> LIBRARY = Set.of("Math.max", "Math.min", "Arrays.fill", "System.arraycopy",
        ".length", ".charAt");
    private static final Set<String> RECURSIVE = Set.of("Search.look");

    private final Map<String, String> bodies = new LinkedHashMap<>();
    private final Map<String, Integer> depths = new HashMap<>();
    private int wrong = 0;

    private void fail(String what) {
        wrong++;
        System.out.println("does not hold: " + what);
    }

    /** Bodies by class and name, comments and texts left out. */
    private void read(String source) {
        String code = source.replaceAll("(?s)/\\*.*?\\*/", " ").replaceAll("//[^\n]*", " ").replaceAll("\"[^\"\n]*\"", "\"\"");
        String inner = "LeastTeaches", open = null, indent = "";
        StringBuilder body = new StringBuilder();
        for (String line : code.split("\n")) {
            Matcher c = CLASS.matcher(line), m = METHOD.matcher(line);
            if (c.matches()) {
                inner = c.group(1);
            } else if (open == null && m.matches()) {
                indent = m.group(1);
                open = inner + "." + m.group(2);
                body.setLength(0);
            } else if (open != null && line.equals(indent + "}")) {
                if (bodies.put(open, body.toString()) != null) fail("one method of the name " + open);
                open = null;
            } else if (open != null) {
                body.append(line).append('\n');
            }
        }
    }

    /** Methods of the file that a call may go to; none, if it is one of the library's. */
    private Set<String> callees(String method) {
        String own = method.substring(0, method.indexOf('.') + 1);
        Set<String> all = new HashSet<>();
        Matcher call = CALL.matcher(bodies.get(method));
        while (call.find()) {
            boolean ofObject = call.group(3) != null;
            String name = ofObject ? call.group(3) : call.group(2);
            String written = ofObject ? "." + name : (call.group(1) == null ? "" : call.group(1)) + name;
            if (WORDS.contains(written) || LIBRARY.contains(written)) continue;
            int before = all.size();
            for (String other : bodies.keySet()) {
                if (ofObject ? other.endsWith("." + name) : other.equals(own + name)) all.add(other);
            }
            if (all.size() == before && all.stream().noneMatch(o -> o.endsWith("." + name))) {
                fail(method + " calls " + written + ", which is neither here nor in the library that is left");
            }
        }
        return all;
    }

    private int depth(String method, Set<String> open) {
        Integer had = depths.get(method);
        if (had != null) return had;
        int deepest = 0;
        open.add(method);
        for (String other : callees(method)) {
            if (!open.contains(other)) {
                deepest = Math.max(deepest, depth(other, open));
            } else if (!other.equals(method) || !RECURSIVE.contains(method)) {
                fail("no recursion from " + method + " to " + other);
            }
        }
        open.remove(method);
        depths.put(method, deepest + 1);
        return deepest + 1;
    }

    public static void main(String[] args) throws IOException {
        CallsTest test = new CallsTest();
        test.read(Files.readString(Path.of("src/main/java/LeastTeaches.java")));
        for (String method : test.bodies.keySet()) {
            int depth = test.depth(method, new HashSet<>());
            if (depth > 8) test.fail(method + " goes eight calls deep at most: " + depth);
        }
        // far more than none: else nothing was read
        if (test.bodies.size() < 60) test.fail("methods were found: " + test.bodies.size());
        System.out.println("CallsTest: " + test.bodies.size() + " methods, " + test.wrong + " wrong");
        if (test.wrong != 0) System.exit(1);
    }
}
