import java.util.ArrayList;
import java.util.Collections;
import java.util.HashMap;
import java.util.List;
import java.util.Map;
import java.util.Set;
import java.util.TreeMap;
import java.util.TreeSet;

/** Which methods of some classes call which. */
final class CallGraph {
    private final Map<String, Set<String>> calls = new TreeMap<>();
    private final Set<String> makers = new TreeSet<>();
    private final Map<String, List<String>> ways = new HashMap<>();

    void add(ClassFile file) {
        calls.putAll(file.calls);
        makers.addAll(file.makers);
        ways.clear();
    }

    Set<String> methods() {
        return calls.keySet();
    }

    Set<String> makers() {
        return makers;
    }

    /** The methods that are called but are none of these classes. */
    Set<String> outside() {
        Set<String> found = new TreeSet<>();
        for (Set<String> called : calls.values()) {
            found.addAll(called);
        }
        found.removeAll(calls.keySet());
        return found;
    }

    /** The methods from which calls can come back to one that is open still: what is left when all others are gone. */
    Set<String> endless() {
        Set<String> left = new TreeSet<>(calls.keySet());
        boolean fewer = true;
        while (fewer) {
            fewer = left.removeIf(method -> Collections.disjoint(calls.get(method), left));
        }
        return left;
    }

    /** The longest row of calls from a method on, itself included; only of a graph without endless ones. */
    List<String> longestWay(String method) {
        if (ways.containsKey(method)) {
            return ways.get(method);
        }
        List<String> longest = List.of();
        for (String called : calls.getOrDefault(method, Set.of())) {
            List<String> way = longestWay(called);
            longest = way.size() > longest.size() ? way : longest;
        }
        List<String> found = new ArrayList<>(List.of(method));
        found.addAll(longest);
        ways.put(method, found);
        return found;
    }
}
