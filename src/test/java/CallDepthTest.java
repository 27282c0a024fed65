import java.io.IOException;
import java.nio.file.Files;
import java.nio.file.Path;
import java.util.ArrayList;
import java.util.HashMap;
import java.util.HashSet;
import java.util.List;
import java.util.Map;
import java.util.Set;
import java.util.TreeMap;
import java.util.TreeSet;
import java.util.regex.Matcher;
import java.util.regex.Pattern;

/**
 * Rule 11 of LANGUAGE.md: calls that are no recursion go at most eight deep. Methods are told apart by
 * their names alone, and those that call one another in a ring count as one level.
 */
public final class CallDepthTest {
    private static final Pattern METHOD = Pattern.compile("^ {4}( {4})?[a-z][\\w<>\\[\\] ]* (\\w+)\\(.*\\) \\{$");
    private static final Pattern CALL = Pattern.compile("\\b([a-z]\\w*)\\(");
    private static final int DEEPEST = 8;

    private final Map<String, Set<String>> calls = new TreeMap<>();
    private final Map<String, Set<String>> reached = new HashMap<>();
    private final Map<String, Integer> depths = new HashMap<>();

    public static void main(String[] args) throws IOException {
        CallDepthTest test = new CallDepthTest();
        test.read(Files.readAllLines(Path.of("src/main/java/WriterPace.java")));
        Check.holds("many methods are found", test.calls.size() > 100);
        int greatest = 0;
        for (String name : test.calls.keySet()) {
            Check.holds(name + " goes " + test.depth(name) + " deep", test.depth(name) <= DEEPEST);
            greatest = Math.max(greatest, test.depth(name));
        }
        Check.holds("calls are found, too: " + greatest, greatest >= 7);
        Set<String> ring = test.ring("readSum");
        Check.holds("the laws are read in a ring: " + ring, ring.size() == 8);
        Check.end();
    }

    private void read(List<String> lines) {
        List<String> bodies = new ArrayList<>();
        List<String> names = new ArrayList<>();
        for (String line : lines) {
            Matcher method = METHOD.matcher(line);
            if (method.matches()) {
                names.add(method.group(2));
                bodies.add("");
                calls.putIfAbsent(method.group(2), new TreeSet<>());
            } else if (!names.isEmpty()) {
                int last = bodies.size() - 1;
                bodies.set(last, bodies.get(last) + line.replaceAll("//.*", "") + "\n");
            }
        }
        for (int i = 0; i < names.size(); i++) {
            Matcher call = CALL.matcher(bodies.get(i));
            while (call.find()) {
                if (calls.containsKey(call.group(1))) {
                    calls.get(names.get(i)).add(call.group(1));
                }
            }
        }
    }

    private Set<String> reachedFrom(String name) {
        Set<String> known = reached.get(name);
        if (known == null) {
            known = new HashSet<>();
            List<String> open = new ArrayList<>(calls.get(name));
            while (!open.isEmpty()) {
                String next = open.remove(open.size() - 1);
                if (known.add(next)) {
                    open.addAll(calls.get(next));
                }
            }
            reached.put(name, known);
        }
        return known;
    }

    /** The methods that call one another in a ring with this one; itself alone if there is no ring. */
    private Set<String> ring(String name) {
        Set<String> ring = new TreeSet<>(Set.of(name));
        for (String other : reachedFrom(name)) {
            if (reachedFrom(other).contains(name)) {
                ring.add(other);
            }
        }
        return ring;
    }

    private int depth(String name) {
        Integer known = depths.get(name);
        if (known != null) {
            return known;
        }
        Set<String> ring = ring(name);
        int below = 0;
        for (String part : ring) {
            for (String next : calls.get(part)) {
                below = ring.contains(next) ? below : Math.max(below, depth(next));
            }
        }
        depths.put(name, below + 1);
        return below + 1;
    }
}
