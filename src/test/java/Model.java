import java.util.ArrayList;
import java.util.HashMap;
import java.util.HashSet;
import java.util.List;
import java.util.Map;
import java.util.Objects;
import java.util.Set;

/**
 * A second telling of the document, in lists and maps. A file that does not exist has no entry in
 * a state.
 */
final class Model {
    private Map<Integer, List<Integer>> now = new HashMap<>();
    private Map<Integer, List<Integer>> lasting = new HashMap<>();
    private final Set<Integer> young = new HashSet<>();

    private static Map<Integer, List<Integer>> deepCopy(Map<Integer, List<Integer>> state) {
        Map<Integer, List<Integer>> copy = new HashMap<>();
        state.forEach((f, words) -> copy.put(f, new ArrayList<>(words)));
        return copy;
    }

    Model another() {
        Model other = new Model();
        other.now = deepCopy(now);
        other.lasting = deepCopy(lasting);
        other.young.addAll(young);
        return other;
    }

    private static boolean bad(int f) {
        return f < 0 || f > 5;
    }

    private int refusal(int f) {
        return bad(f) ? -1 : now.containsKey(f) ? 0 : -3;
    }

    private void checkpoint() {
        lasting = deepCopy(now);
        young.clear();
    }

    int create(int f) {
        if (bad(f)) {
            return -1;
        }
        if (now.containsKey(f)) {
            return -3;
        }
        now.put(f, new ArrayList<>());
        young.add(f);
        return 0;
    }

    int remove(int f) {
        if (refusal(f) != 0) {
            return refusal(f);
        }
        young.remove(f);
        return now.remove(f).size();
    }

    int write(int f, int i, int word) {
        if (refusal(f) != 0) {
            return refusal(f);
        }
        List<Integer> words = now.get(f);
        if (i < 0 || i > words.size() || i == 4) {
            return -1;
        }
        if (i == words.size()) {
            words.add(word);
        } else {
            words.set(i, word);
        }
        return words.size();
    }

    int truncate(int f, int n) {
        if (refusal(f) != 0) {
            return refusal(f);
        }
        List<Integer> words = now.get(f);
        int before = words.size();
        if (n < 0 || n > before) {
            return -1;
        }
        now.put(f, new ArrayList<>(words.subList(0, n)));
        return before;
    }

    int copy(int f, int g) {
        if (bad(f) || bad(g)) {
            return -1;
        }
        if (!now.containsKey(f) || !now.containsKey(g)) {
            return -3;
        }
        now.put(f, new ArrayList<>(now.get(g)));
        return now.get(f).size();
    }

    int fsync(int f) {
        if (refusal(f) != 0) {
            return refusal(f);
        }
        if (young.contains(f)) {
            checkpoint();
            return 1;
        }
        lasting.put(f, new ArrayList<>(now.get(f)));
        return 0;
    }

    int sync() {
        checkpoint();
        return now.size();
    }

    int crash() {
        now = deepCopy(lasting);
        young.clear();
        return now.size();
    }

    boolean exists(int f) {
        return now.containsKey(f);
    }

    int size(int f) {
        return refusal(f) != 0 ? refusal(f) : now.get(f).size();
    }

    int read(int f, int i) {
        List<Integer> words = now.getOrDefault(f, List.of());
        return i >= 0 && i < words.size() ? words.get(i) : 0;
    }

    int unsafe() {
        int count = 0;
        for (int f = 0; f < 6; f++) {
            if (!Objects.equals(now.get(f), lasting.get(f))) {
                count++;
            }
        }
        return count;
    }

    int digest() {
        long sum = 0;
        for (int f : now.keySet()) {
            List<Integer> words = now.get(f);
            sum += 1000L * (f + 1) * (words.size() + 1);
            for (int i = 0; i < words.size(); i++) {
                sum += (8L * f + i + 1) * words.get(i);
            }
        }
        return (int) sum;
    }

    /** The two states and the young files, so that equal ones can be told. */
    List<Object> whole() {
        return List.of(deepCopy(now), deepCopy(lasting), Set.copyOf(young));
    }
}
