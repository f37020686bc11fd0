import java.util.ArrayList;
import java.util.List;
import java.util.function.Consumer;

/**
 * The sentences of the document that hold for all calls ('What it is' and 'Terms'), each with a
 * test of its own.
 */
public final class TermsTest {
    private static final int BAD = -1;
    private static final int ABSENT = -3;
    private static final int LOWEST = Integer.MIN_VALUE;
    private static final int HIGHEST = Integer.MAX_VALUE;
    private static final int LAST_CALL = 512;

    // The great ones fall on a good number if they are cut to fewer bits or multiplied by 4 or 8.
    private static final int[] NO_FILES = {
        -1, 6, -2, 7, -6, 8, 256, 65536, 1 << 29, 1 << 30, -(1 << 30), LOWEST, LOWEST + 5, HIGHEST};
    private static final int[] FILE_NUMBERS = {
        0, 1, 2, 3, 4, 5, -1, 6, 256, 1 << 30, LOWEST, HIGHEST};
    private static final int[] PLACE_NUMBERS = {
        0, 1, 2, 3, 4, -1, 5, -4, 256, 1 << 30, LOWEST, HIGHEST};

    private static final Checks checks = new Checks("the terms");

    public static void main(String[] args) {
        used512Times();
        answersAtTheLastCall();
        fileNumbers();
        sizesAndWords();
        young();
        checkpoint();
        powerFailure();
        badNumberBeforeAnythingElse();
        absentNext();
        neverThrows();
        refusedAnswersTheCode();
        refusedChangesNothing();
        checks.end();
    }

    private static void due(String call, long got, long want) {
        checks.due(call, got, want);
    }

    private static void used512Times() {
        checks.sentence("An object is used for at most 512 calls after it has been made");
        NodeTableFiles made = new NodeTableFiles();
        NodeTableFiles written = new NodeTableFiles();
        NodeTableFiles lasting = new NodeTableFiles();
        NodeTableFiles old = new NodeTableFiles();
        NodeTableFiles crashed = new NodeTableFiles();
        NodeTableFiles refused = new NodeTableFiles();
        due("call 1: create", written.create(3), 0);
        due("call 1: create", old.create(0), 0);
        due("call 2: sync", old.sync(), 1);
        for (int call = 1; call <= LAST_CALL; call++) {
            String at = "call " + call + ": ";
            boolean odd = call % 2 == 1;
            due(at + "create and remove", odd ? made.create(5) : made.remove(5), 0);
            due(at + "refused", refused.remove(call % 6), ABSENT);
            int turn = call % 4;
            due(at + "young, fsync, remove, sync", turn == 1 ? lasting.create(2)
                : turn == 2 ? lasting.fsync(2) : turn == 3 ? lasting.remove(2) : lasting.sync(),
                turn == 2 ? 1 : 0);
            due(at + "create and crash", odd ? crashed.create(1) : crashed.crash(), 0);
            if (call > 1) {
                due(at + "write", written.write(3, 0, call), 1);
            }
            if (call > 2) {
                due(at + "write and fsync", odd ? old.write(0, 0, call) : old.fsync(0), odd ? 1 : 0);
            }
        }
    }

    /** 511 calls that fill all six files, make them last and change them; then one of each kind. */
    private static void answersAtTheLastCall() {
        checks.sentence("An object is used for at most 512 calls after it has been made");
        due("call 512: create", before512().create(5), 0);
        due("call 512: remove", before512().remove(0), 4);
        due("call 512: write", before512().write(1, 3, 9), 4);
        due("call 512: write past the size", before512().write(1, 4, 9), BAD);
        due("call 512: truncate", before512().truncate(2, 0), 4);
        due("call 512: copy", before512().copy(3, 0), 4);
        due("call 512: fsync", before512().fsync(4), 0);
        due("call 512: fsync of an absent file", before512().fsync(5), ABSENT);
        due("call 512: sync", before512().sync(), 5);
        due("call 512: crash", before512().crash(), 6);
        checks.due("call 512: exists", before512().exists(5), false);
        due("call 512: size", before512().size(4), 4);
        due("call 512: read", before512().read(4, 3), 1511);
        due("call 512: unsafe", before512().unsafe(), 2);
        due("call 512: digest", before512().digest(),
            36 * 1511 + (1 + 2 + 3 + 4 + 9 + 10 + 11 + 12 + 17 + 18 + 19 + 20 + 25 + 26 + 27 + 28 + 33 + 34 + 35)
                + 5000 * (1 + 2 + 3 + 4 + 5));
    }

    private static NodeTableFiles before512() {
        NodeTableFiles x = new NodeTableFiles();
        int calls = 0;
        for (int f = 0; f < 6; f++) {
            checks.make(x, f, 1, 1, 1, 1);
            calls += 5;
        }
        due("before 512: sync", x.sync(), 6);
        due("before 512: remove", x.remove(5), 4);
        for (calls += 3; calls <= 511; calls++) {
            due("before 512: write", x.write(4, 3, 1000 + calls), 4);
        }
        return x;
    }

    private static void fileNumbers() {
        checks.sentence("FILES are numbered 0 to 5.");
        NodeTableFiles x = new NodeTableFiles();
        for (int f : NO_FILES) {
            due("create(" + f + ")", x.create(f), BAD);
        }
        due("none was made", x.sync(), 0);
        for (int f = 0; f < 6; f++) {
            checks.make(x, f, 10 * f, 10 * f + 1, 10 * f + 2, 10 * f + 3);
        }
        for (int f : NO_FILES) {
            due("create(" + f + ") beside six", x.create(f), BAD);
        }
        due("six and no more", x.sync(), 6);
        due("six last", x.crash(), 6);
        for (int f = 0; f < 6; f++) {
            checks.dueWords("file " + f, x, f, 10 * f, 10 * f + 1, 10 * f + 2, 10 * f + 3);
        }
    }

    private static void sizesAndWords() {
        checks.sentence("an existing file has a SIZE, 0 to 4, and a word (an int) at each of the places"
            + " 0 to its size less 1.");
        int[] words = {LOWEST, HIGHEST, -1, 0, 1, 127, 128, 255, 256, 32767, 32768, 65535, 65536, 1 << 30};
        for (int word : words) {
            NodeTableFiles x = new NodeTableFiles();
            checks.make(x, 4);
            checks.dueWords("empty", x, 4);
            for (int i = 0; i < 4; i++) {
                due("write at " + i, x.write(4, i, word + i), i + 1);
                due("size", x.size(4), i + 1);
                due("word " + word + " + " + i, x.read(4, i), word + i);
            }
            due("a fifth word", x.write(4, 4, word), BAD);
            checks.dueWords("full", x, 4, word, word + 1, word + 2, word + 3);
            due("sync", x.sync(), 1);
            due("truncate", x.truncate(4, 0), 4);
            checks.dueWords("empty again", x, 4);
            due("crash", x.crash(), 1);
            checks.dueWords("full again", x, 4, word, word + 1, word + 2, word + 3);
        }
    }

    /** Told by fsync, which answers 1 for a young file and 0 for another. */
    private static void young() {
        checks.sentence("A file is YOUNG if it exists now and create made it since the last CHECKPOINT.");
        for (int f = 0; f < 6; f++) {
            int other = (f + 1) % 6;
            NodeTableFiles x = new NodeTableFiles();
            checks.make(x, f);
            due("just made", x.fsync(f), 1);
            due("made before the checkpoint", x.fsync(f), 0);
            x.remove(f);
            due("young, but does not exist now", x.fsync(f), ABSENT);
            x.create(f);
            due("made again since the checkpoint", x.fsync(f), 1);
            x.remove(f);
            x.create(f);
            x.create(other);
            x.fsync(other);
            due("made before a checkpoint by another file's fsync", x.fsync(f), 0);
            x.remove(other);
            x.create(other);
            x.fsync(f);
            due("made before an fsync without a checkpoint", x.fsync(other), 1);
            x.remove(other);
            x.sync();
            x.create(other);
            x.sync();
            due("made before sync", x.fsync(other), 0);
            x.write(other, 0, 1);
            x.truncate(other, 0);
            x.copy(other, f);
            due("changed, not made, since the checkpoint", x.fsync(other), 0);
            x.create(f);
            due("an existing file, not made by the refused create", x.fsync(f), 0);
        }
    }

    private static void checkpoint() {
        checks.sentence("A checkpoint makes the state that lasts the state now; then no file is young.");
        NodeTableFiles none = new NodeTableFiles();
        due("of no file: sync", none.sync(), 0);
        due("of no file: crash", none.crash(), 0);
        NodeTableFiles x = new NodeTableFiles();
        for (int f = 0; f < 6; f++) {
            checks.make(x, f, f, f, f, f);
        }
        due("of six full files: sync", x.sync(), 6);
        due("of six full files: unsafe", x.unsafe(), 0);
        for (int f = 0; f < 6; f++) {
            due("none is young", x.fsync(f), 0);
            due("emptied", x.truncate(f, 0), 4);
        }
        due("of six empty files: sync", x.sync(), 6);
        due("of six empty files: crash", x.crash(), 6);
        for (int f = 0; f < 6; f++) {
            checks.dueWords("empty lasts", x, f);
            due("removed", x.remove(f), 0);
        }
        due("of no file any more: sync", x.sync(), 0);
        due("of no file any more: unsafe", x.unsafe(), 0);
        due("of no file any more: crash", x.crash(), 0);
        for (int f = 0; f < 6; f++) {
            checks.dueAbsent("the removal lasts", x, f);
        }
    }

    private static void powerFailure() {
        checks.sentence("When the power fails, the state now becomes the state that lasts, and no file is young.");
        NodeTableFiles x = new NodeTableFiles();
        for (int f = 0; f < 6; f++) {
            checks.make(x, f, f);
        }
        due("nothing lasts", x.crash(), 0);
        for (int f = 0; f < 6; f++) {
            checks.dueAbsent("lost", x, f);
            checks.make(x, f, f, 2, 3, 4);
        }
        x.sync();
        x.remove(0);
        x.truncate(1, 0);
        x.write(2, 3, 5);
        x.copy(3, 2);
        x.remove(4);
        x.create(4);
        due("six full files last", x.crash(), 6);
        for (int f = 0; f < 6; f++) {
            checks.dueWords("full again", x, f, f, 2, 3, 4);
            due("none is young", x.fsync(f), 0);
        }
        x.write(5, 0, 77);
        due("a change after the failure does not last", x.crash(), 6);
        checks.dueWords("as it lasts", x, 5, 5, 2, 3, 4);
        due("at once again", x.crash(), 6);
    }

    private static void badNumberBeforeAnythingElse() {
        checks.sentence("In all calls with a file, a number not 0 to 5 answers BAD_ARG before anything else;");
        for (Case c : Case.all()) {
            for (int f : NO_FILES) {
                NodeTableFiles x = c.object();
                String at = c.name + ": file " + f + ": ";
                due(at + "create", x.create(f), BAD);
                due(at + "remove", x.remove(f), BAD);
                due(at + "size", x.size(f), BAD);
                due(at + "fsync", x.fsync(f), BAD);
                for (int i : PLACE_NUMBERS) {
                    due(at + "write at " + i, x.write(f, i, 1), BAD);
                    due(at + "truncate to " + i, x.truncate(f, i), BAD);
                }
                for (int g : FILE_NUMBERS) {
                    due(at + "copy from " + g, x.copy(f, g), BAD);
                    due(at + "copy to " + g, x.copy(g, f), BAD);
                }
            }
        }
    }

    private static void absentNext() {
        checks.sentence("then a file that does not exist (for create: that does) answers ABSENT.");
        for (Case c : Case.all()) {
            for (int f = 0; f < 6; f++) {
                NodeTableFiles x = c.object();
                String at = c.name + ": file " + f + ": ";
                if (c.exists(f)) {
                    due(at + "create", x.create(f), ABSENT);
                    continue;
                }
                due(at + "remove", x.remove(f), ABSENT);
                due(at + "size", x.size(f), ABSENT);
                due(at + "fsync", x.fsync(f), ABSENT);
                for (int i : PLACE_NUMBERS) {
                    due(at + "write at " + i, x.write(f, i, 1), ABSENT);
                    due(at + "truncate to " + i, x.truncate(f, i), ABSENT);
                }
                for (int g = 0; g < 6; g++) {
                    due(at + "copy from " + g, x.copy(f, g), ABSENT);
                    due(at + "copy to " + g, x.copy(g, f), ABSENT);
                }
            }
        }
    }

    private static void neverThrows() {
        checks.sentence("No call ever throws.");
        for (Case c : Case.all()) {
            for (Call call : Call.all()) {
                NodeTableFiles x = c.object();
                boolean threw = false;
                try {
                    call.on(x);
                    x.sync();
                    x.crash();
                    x.unsafe();
                    x.digest();
                } catch (RuntimeException | Error thrown) {
                    threw = true;
                }
                checks.due(c.name + ": " + call.name() + " throws", threw, false);
            }
        }
    }

    private static void refusedAnswersTheCode() {
        checks.sentence("A refused call answers the code named");
        due("BAD_ARG", NodeTableFiles.BAD_ARG, -1);
        due("ABSENT", NodeTableFiles.ABSENT, -3);
        for (Case c : Case.all()) {
            for (Call call : Call.all()) {
                if (call.kind.refuses) {
                    int answer = call.on(c.object());
                    due(c.name + ": " + call.name(), answer < 0 ? answer : 0, call.refusal(c));
                }
            }
        }
    }

    private static void refusedChangesNothing() {
        checks.sentence("A refused call answers the code named and changes nothing.");
        for (Case c : Case.all()) {
            List<Integer> untouched = everything(c, x -> { });
            for (Call call : Call.all()) {
                if (call.refusal(c) != 0 || !call.kind.changes) {
                    boolean same = everything(c, call::on).equals(untouched);
                    checks.due(c.name + ": " + call.name() + " changes something", same, true);
                }
            }
        }
    }

    /**
     * What can be found out after the call about the state now, the state that lasts and the young
     * files; each question that itself changes something is put to an object of its own.
     */
    private static List<Integer> everything(Case c, Consumer<NodeTableFiles> call) {
        List<Integer> answers = new ArrayList<>();
        NodeTableFiles now = c.object();
        call.accept(now);
        addStateNow(answers, now);
        NodeTableFiles failed = c.object();
        call.accept(failed);
        answers.add(failed.crash());
        addStateNow(answers, failed);
        for (int f = 0; f < 6; f++) {
            NodeTableFiles x = c.object();
            call.accept(x);
            answers.add(x.fsync(f));
            answers.add(x.unsafe());
        }
        return answers;
    }

    private static void addStateNow(List<Integer> answers, NodeTableFiles x) {
        answers.add(x.digest());
        answers.add(x.unsafe());
        for (int f = 0; f < 6; f++) {
            answers.add(x.exists(f) ? 1 : 0);
            answers.add(x.size(f));
            for (int i = 0; i < 4; i++) {
                answers.add(x.read(f, i));
            }
        }
    }

    /** A state to put calls to: how an object comes there, and the sizes then, -1 for no file. */
    private static final class Case {
        private final String name;
        private final Consumer<NodeTableFiles> way;
        private final int[] sizes;

        private Case(String name, Consumer<NodeTableFiles> way, int... sizes) {
            this.name = name;
            this.way = way;
            this.sizes = sizes;
        }

        static List<Case> all() {
            return List.of(
                new Case("a new object", x -> { }, -1, -1, -1, -1, -1, -1),
                new Case("young files of each size", Case::youngOfEachSize, 0, 1, 2, 3, 4, -1),
                new Case("six full files that last", Case::fullAndLasting, 4, 4, 4, 4, 4, 4),
                new Case("files of each fate", Case::eachFate, 4, 2, 1, -1, 0, -1),
                new Case("after a failure", Case::eachFateThenFailure, 4, 1, -1, 3, 2, -1));
        }

        NodeTableFiles object() {
            NodeTableFiles x = new NodeTableFiles();
            way.accept(x);
            return x;
        }

        boolean exists(int f) {
            return sizes[f] >= 0;
        }

        private static void make(NodeTableFiles x, int f, int size) {
            x.create(f);
            for (int i = 0; i < size; i++) {
                x.write(f, i, 100 * f + i + 1);
            }
        }

        private static void youngOfEachSize(NodeTableFiles x) {
            for (int f = 0; f < 5; f++) {
                make(x, f, f);
            }
        }

        private static void fullAndLasting(NodeTableFiles x) {
            for (int f = 0; f < 6; f++) {
                make(x, f, 4);
            }
            x.sync();
        }

        /** 0 lasts, 1 changed, 2 young, 3 removed, 4 made again, 5 made and removed. */
        private static void eachFate(NodeTableFiles x) {
            make(x, 0, 4);
            make(x, 1, 1);
            make(x, 3, 3);
            make(x, 4, 2);
            x.sync();
            x.write(1, 0, -7);
            x.write(1, 1, -8);
            make(x, 2, 1);
            x.remove(3);
            x.remove(4);
            x.create(4);
            make(x, 5, 4);
            x.remove(5);
        }

        private static void eachFateThenFailure(NodeTableFiles x) {
            eachFate(x);
            x.crash();
        }
    }

    private enum Kind {
        CREATE(true, true),
        REMOVE(true, true),
        WRITE(true, true),
        TRUNCATE(true, true),
        COPY(true, true),
        FSYNC(true, true),
        EXISTS(false, false),
        SIZE(false, true),
        READ(false, false),
        UNSAFE(false, false),
        DIGEST(false, false);

        private final boolean changes;
        private final boolean refuses;

        Kind(boolean changes, boolean refuses) {
            this.changes = changes;
            this.refuses = refuses;
        }
    }

    /** One call; second is the place, the size or the other file. */
    private static final class Call {
        private final Kind kind;
        private final int f;
        private final int second;

        private Call(Kind kind, int f, int second) {
            this.kind = kind;
            this.f = f;
            this.second = second;
        }

        static List<Call> all() {
            List<Call> calls = new ArrayList<>();
            for (Kind kind : Kind.values()) {
                boolean twoNumbers = kind == Kind.WRITE || kind == Kind.TRUNCATE || kind == Kind.COPY
                    || kind == Kind.READ;
                int[] seconds = kind == Kind.COPY ? FILE_NUMBERS : PLACE_NUMBERS;
                for (int f : FILE_NUMBERS) {
                    for (int k = 0; k < (twoNumbers ? seconds.length : 1); k++) {
                        calls.add(new Call(kind, f, seconds[k]));
                    }
                }
            }
            return calls;
        }

        String name() {
            return kind + "(" + f + ", " + second + ")";
        }

        int on(NodeTableFiles x) {
            return switch (kind) {
                case CREATE -> x.create(f);
                case REMOVE -> x.remove(f);
                case WRITE -> x.write(f, second, 99);
                case TRUNCATE -> x.truncate(f, second);
                case COPY -> x.copy(f, second);
                case FSYNC -> x.fsync(f);
                case EXISTS -> x.exists(f) ? 1 : 0;
                case SIZE -> x.size(f);
                case READ -> x.read(f, second);
                case UNSAFE -> x.unsafe();
                case DIGEST -> x.digest();
            };
        }

        /** The code that is due in this state, 0 if the call is not refused. */
        int refusal(Case c) {
            boolean secondIsFile = kind == Kind.COPY;
            if (!kind.refuses) {
                return 0;
            }
            if (f < 0 || f > 5 || secondIsFile && (second < 0 || second > 5)) {
                return BAD;
            }
            if (c.exists(f) == (kind == Kind.CREATE) || secondIsFile && !c.exists(second)) {
                return ABSENT;
            }
            boolean past = second < 0 || second > c.sizes[f];
            if (kind == Kind.WRITE && (past || second == 4) || kind == Kind.TRUNCATE && past) {
                return BAD;
            }
            return 0;
        }
    }
}
