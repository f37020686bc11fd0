import java.util.ArrayList;
import java.util.HashMap;
import java.util.HashSet;
import java.util.List;
import java.util.Map;
import java.util.Objects;
import java.util.Set;

/**
 * Long mixed runs against a second telling of the document, in lists and maps. The numbers come
 * from a fixed recurrence, so that every run of the test makes the same calls.
 */
public final class ModelTest {
    private static final int RUNS = 4000;
    private static final int CALLS_IN_A_RUN = 512;
    private static final int[] ODD_NUMBERS = {
        -1, 6, 7, -6, 100, Integer.MIN_VALUE, Integer.MAX_VALUE, 1 << 30, -(1 << 30)};

    private static long seed = 1;

    public static void main(String[] args) {
        Checks checks = new Checks("the model");
        for (int run = 1; run <= RUNS && checks.wrong() == 0; run++) {
            oneRun(checks, run);
        }
        checks.end();
    }

    private static int below(int bound) {
        seed = seed * 6364136223846793005L + 1442695040888963407L;
        return (int) ((seed >>> 33) % bound);
    }

    private static int number(int bound) {
        return below(12) == 0 ? ODD_NUMBERS[below(ODD_NUMBERS.length)] : below(bound);
    }

    // Few different words, so that a word is often written back to what lasts.
    private static int word() {
        return below(4) == 0 ? below(Integer.MAX_VALUE) * 3 : below(3);
    }

    private static void oneRun(Checks checks, int run) {
        NodeTableFiles real = new NodeTableFiles();
        Model model = new Model();
        // Few files make the same file meet more calls.
        int files = 1 + below(6);
        for (int call = 1; call <= CALLS_IN_A_RUN && checks.wrong() == 0; call++) {
            oneCall(checks, "run " + run + ", call " + call + ": ", real, model, files);
        }
    }

    private static void oneCall(Checks checks, String at, NodeTableFiles real, Model model, int files) {
        int kind = below(26);
        int f = number(files);
        if (kind < 3) {
            checks.due(at + "create(" + f + ")", real.create(f), model.create(f));
        } else if (kind < 5) {
            checks.due(at + "remove(" + f + ")", real.remove(f), model.remove(f));
        } else if (kind < 11) {
            int i = number(5);
            int word = word();
            checks.due(at + "write(" + f + ", " + i + ", " + word + ")",
                real.write(f, i, word), model.write(f, i, word));
        } else if (kind < 13) {
            int n = number(5);
            checks.due(at + "truncate(" + f + ", " + n + ")", real.truncate(f, n), model.truncate(f, n));
        } else if (kind < 15) {
            int g = number(files);
            checks.due(at + "copy(" + f + ", " + g + ")", real.copy(f, g), model.copy(f, g));
        } else if (kind < 18) {
            checks.due(at + "fsync(" + f + ")", real.fsync(f), model.fsync(f));
        } else if (kind == 18) {
            checks.due(at + "sync()", real.sync(), model.sync());
        } else if (kind == 19) {
            checks.due(at + "crash()", real.crash(), model.crash());
        } else if (kind == 20) {
            checks.due(at + "exists(" + f + ")", real.exists(f), model.exists(f));
        } else if (kind == 21) {
            checks.due(at + "size(" + f + ")", real.size(f), model.size(f));
        } else if (kind == 22) {
            int i = number(5);
            checks.due(at + "read(" + f + ", " + i + ")", real.read(f, i), model.read(f, i));
        } else if (kind == 23) {
            checks.due(at + "digest()", real.digest(), model.digest());
        } else {
            checks.due(at + "unsafe()", real.unsafe(), model.unsafe());
        }
    }

    /** A file that does not exist has no entry in a state. */
    private static final class Model {
        private Map<Integer, List<Integer>> now = new HashMap<>();
        private Map<Integer, List<Integer>> lasting = new HashMap<>();
        private final Set<Integer> young = new HashSet<>();

        private static Map<Integer, List<Integer>> deepCopy(Map<Integer, List<Integer>> state) {
            Map<Integer, List<Integer>> copy = new HashMap<>();
            state.forEach((f, words) -> copy.put(f, new ArrayList<>(words)));
            return copy;
        }

        private static boolean bad(int f) {
            return f < 0 || f > 5;
        }

        private int refusal(int f) {
            return bad(f) ? -1 : now.containsKey(f) ? 0 : -3;
        }

        private void checkpoint() {
            lasting = deepCopy(now);
            young.clear();
        }

        int create(int f) {
            if (bad(f)) {
                return -1;
            }
            if (now.containsKey(f)) {
                return -3;
            }
            now.put(f, new ArrayList<>());
            young.add(f);
            return 0;
        }

        int remove(int f) {
            if (refusal(f) != 0) {
                return refusal(f);
            }
            young.remove(f);
            return now.remove(f).size();
        }

        int write(int f, int i, int word) {
            if (refusal(f) != 0) {
                return refusal(f);
            }
            List<Integer> words = now.get(f);
            if (i < 0 || i > words.size() || i == 4) {
                return -1;
            }
            if (i == words.size()) {
                words.add(word);
            } else {
                words.set(i, word);
            }
            return words.size();
        }

        int truncate(int f, int n) {
            if (refusal(f) != 0) {
                return refusal(f);
            }
            List<Integer> words = now.get(f);
            int before = words.size();
            if (n < 0 || n > before) {
                return -1;
            }
            now.put(f, new ArrayList<>(words.subList(0, n)));
            return before;
        }

        int copy(int f, int g) {
            if (bad(f) || bad(g)) {
                return -1;
            }
            if (!now.containsKey(f) || !now.containsKey(g)) {
                return -3;
            }
            now.put(f, new ArrayList<>(now.get(g)));
            return now.get(f).size();
        }

        int fsync(int f) {
            if (refusal(f) != 0) {
                return refusal(f);
            }
            if (young.contains(f)) {
                checkpoint();
                return 1;
            }
            lasting.put(f, new ArrayList<>(now.get(f)));
            return 0;
        }

        int sync() {
            checkpoint();
            return now.size();
        }

        int crash() {
            now = deepCopy(lasting);
            young.clear();
            return now.size();
        }

        boolean exists(int f) {
            return now.containsKey(f);
        }

        int size(int f) {
            return refusal(f) != 0 ? refusal(f) : now.get(f).size();
        }

        int read(int f, int i) {
            List<Integer> words = now.getOrDefault(f, List.of());
            return i >= 0 && i < words.size() ? words.get(i) : 0;
        }

        int unsafe() {
            int count = 0;
            for (int f = 0; f < 6; f++) {
                if (!Objects.equals(now.get(f), lasting.get(f))) {
                    count++;
                }
            }
            return count;
        }

        int digest() {
            long sum = 0;
            for (int f : now.keySet()) {
                List<Integer> words = now.get(f);
                sum += 1000L * (f + 1) * (words.size() + 1);
                for (int i = 0; i < words.size(); i++) {
                    sum += (8L * f + i + 1) * words.get(i);
                }
            }
            return (int) sum;
        }
    }
}
