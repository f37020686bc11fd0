import java.util.ArrayDeque;
import java.util.ArrayList;
import java.util.Deque;
import java.util.HashSet;
import java.util.List;
import java.util.Set;

/**
 * Every state that a few small files can come into, and in each of them every call, against the
 * model: the answer, and what the call leaves of the state now, the state that lasts and the young
 * files. What unsafe counts is held against what the failure of the power then changes.
 */
public final class EveryStateTest {
    private static final int NO_FILE = 6;

    private static final Checks checks = new Checks("every state");

    private final List<Call> calls = new ArrayList<>();
    private final int[] files;

    private EveryStateTest(int greatestSize, int[] words, int... files) {
        this.files = files;
        for (int f : files) {
            calls.add(new Call(Kind.CREATE, f, 0, 0));
            calls.add(new Call(Kind.REMOVE, f, 0, 0));
            calls.add(new Call(Kind.FSYNC, f, 0, 0));
            for (int i = 0; i < greatestSize; i++) {
                for (int word : words) {
                    calls.add(new Call(Kind.WRITE, f, i, word));
                }
            }
            calls.add(new Call(Kind.WRITE, f, 4, words[0]));
            calls.add(new Call(Kind.WRITE, f, -1, words[0]));
            for (int n = -1; n <= greatestSize + 1; n++) {
                calls.add(new Call(Kind.TRUNCATE, f, n, 0));
            }
            for (int g : files) {
                calls.add(new Call(Kind.COPY, f, g, 0));
            }
            calls.add(new Call(Kind.COPY, f, NO_FILE, 0));
            calls.add(new Call(Kind.COPY, NO_FILE, f, 0));
        }
        calls.add(new Call(Kind.SYNC, 0, 0, 0));
        calls.add(new Call(Kind.CRASH, 0, 0, 0));
    }

    public static void main(String[] args) {
        int[] zeroAndSeven = {0, 7};
        int[] seven = {7};
        // So many by counting for each file: absent now, young, or old, which lasts in some form.
        checks.due("states of one file", new EveryStateTest(4, zeroAndSeven, 5).inAllStates(), 32 + 31 * 32 + 31 * 31);
        int one = 8 + 7 * 8 + 7 * 7;
        checks.due("states of two neighbours", new EveryStateTest(2, zeroAndSeven, 2, 3).inAllStates(), one * one);
        one = 3 + 2 * 3 + 2 * 2;
        checks.due("states of three files", new EveryStateTest(1, seven, 0, 4, 5).inAllStates(), one * one * one);
        checks.end();
    }

    /** Answers how many states there are. */
    private int inAllStates() {
        Set<List<Object>> seen = new HashSet<>();
        Deque<State> open = new ArrayDeque<>();
        State first = new State(new Model(), List.of());
        seen.add(first.model.whole());
        open.add(first);
        while (!open.isEmpty() && checks.wrong() == 0) {
            State state = open.remove();
            for (Call call : calls) {
                State next = state.after(call);
                inOneState(state, call, next);
                if (seen.add(next.model.whole())) {
                    open.add(next);
                }
            }
        }
        return seen.size();
    }

    private void inOneState(State before, Call call, State after) {
        NodeTableFiles x = before.object();
        due(after, "the last call", call.on(x), call.on(before.model.another()));
        Model model = after.model.another();
        int[] seen = look(x);
        dueSame(after, "the state now", seen, look(model));
        int unsafe = x.unsafe();
        due(after, "unsafe()", unsafe, model.unsafe());
        due(after, "crash()", x.crash(), model.crash());
        int[] left = look(x);
        dueSame(after, "the state that lasts", left, look(model));
        due(after, "unsafe() beside the files that the failure changed", unsafe, changed(seen, left));
        for (int f : files) {
            Model other = after.model.another();
            NodeTableFiles y = after.object();
            due(after, "fsync(" + f + ")", y.fsync(f), other.fsync(f));
            due(after, "unsafe() after fsync(" + f + ")", y.unsafe(), other.unsafe());
        }
    }

    private static void due(State state, String what, int got, int want) {
        // The text of a long run is made only for a wrong answer: there are some million right ones.
        checks.due(got == want ? what : state.calls + " then " + what, got, want);
    }

    private static void dueSame(State state, String what, int[] got, int[] want) {
        for (int k = 0; k < got.length; k++) {
            due(state, what, got[k], want[k]);
        }
    }

    // Six answers of each file, then the digest.
    private static int[] look(NodeTableFiles x) {
        int[] answers = new int[37];
        for (int f = 0; f < 6; f++) {
            answers[6 * f] = x.exists(f) ? 1 : 0;
            answers[6 * f + 1] = x.size(f);
            for (int i = 0; i < 4; i++) {
                answers[6 * f + 2 + i] = x.read(f, i);
            }
        }
        answers[36] = x.digest();
        return answers;
    }

    private static int[] look(Model x) {
        int[] answers = new int[37];
        for (int f = 0; f < 6; f++) {
            answers[6 * f] = x.exists(f) ? 1 : 0;
            answers[6 * f + 1] = x.size(f);
            for (int i = 0; i < 4; i++) {
                answers[6 * f + 2 + i] = x.read(f, i);
            }
        }
        answers[36] = x.digest();
        return answers;
    }

    private static int changed(int[] before, int[] after) {
        int files = 0;
        for (int f = 0; f < 6; f++) {
            boolean same = true;
            for (int k = 6 * f; k < 6 * f + 6; k++) {
                same &= before[k] == after[k];
            }
            files += same ? 0 : 1;
        }
        return files;
    }

    /** A state of the model and the calls that lead to it from a new object. */
    private static final class State {
        private final Model model;
        private final List<Call> calls;

        private State(Model model, List<Call> calls) {
            this.model = model;
            this.calls = calls;
        }

        State after(Call call) {
            Model next = model.another();
            call.on(next);
            List<Call> longer = new ArrayList<>(calls);
            longer.add(call);
            return new State(next, longer);
        }

        NodeTableFiles object() {
            NodeTableFiles x = new NodeTableFiles();
            for (Call call : calls) {
                call.on(x);
            }
            return x;
        }
    }

    private enum Kind { CREATE, REMOVE, WRITE, TRUNCATE, COPY, FSYNC, SYNC, CRASH }

    /** One call; second is the place, the size or the other file. */
    private record Call(Kind kind, int f, int second, int word) {
        int on(NodeTableFiles x) {
            return switch (kind) {
                case CREATE -> x.create(f);
                case REMOVE -> x.remove(f);
                case WRITE -> x.write(f, second, word);
                case TRUNCATE -> x.truncate(f, second);
                case COPY -> x.copy(f, second);
                case FSYNC -> x.fsync(f);
                case SYNC -> x.sync();
                case CRASH -> x.crash();
            };
        }

        int on(Model x) {
            return switch (kind) {
                case CREATE -> x.create(f);
                case REMOVE -> x.remove(f);
                case WRITE -> x.write(f, second, word);
                case TRUNCATE -> x.truncate(f, second);
                case COPY -> x.copy(f, second);
                case FSYNC -> x.fsync(f);
                case SYNC -> x.sync();
                case CRASH -> x.crash();
            };
        }
    }
}
