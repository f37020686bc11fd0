/**
 * Long mixed runs against a second telling of the document, in lists and maps. The numbers come
 * from a fixed recurrence, so that every run of the test makes the same calls.
 */
public final class ModelTest {
    private static final int RUNS = 4000;
    private static final int CALLS_IN_A_RUN = 512;
    private static final int[] ODD_NUMBERS = {
        -1, 6, 7, -6, 100, Integer.MIN_VALUE, Integer.MAX_VALUE, 1 << 30, -(1 << 30)};

    private static long seed = 1;

    public static void main(String[] args) {
        Checks checks = new Checks("the model");
        for (int run = 1; run <= RUNS && checks.wrong() == 0; run++) {
            oneRun(checks, run);
        }
        checks.end();
    }

    private static int below(int bound) {
        seed = seed * 6364136223846793005L + 1442695040888963407L;
        return (int) ((seed >>> 33) % bound);
    }

    private static int number(int bound) {
        return below(12) == 0 ? ODD_NUMBERS[below(ODD_NUMBERS.length)] : below(bound);
    }

    // Few different words, so that a word is often written back to what lasts.
    private static int word() {
        return below(4) == 0 ? below(Integer.MAX_VALUE) * 3 : below(3);
    }

    private static void oneRun(Checks checks, int run) {
        NodeTableFiles real = new NodeTableFiles();
        Model model = new Model();
        // Few files make the same file meet more calls.
        int files = 1 + below(6);
        for (int call = 1; call <= CALLS_IN_A_RUN && checks.wrong() == 0; call++) {
            oneCall(checks, "run " + run + ", call " + call + ": ", real, model, files);
        }
    }

    private static void oneCall(Checks checks, String at, NodeTableFiles real, Model model, int files) {
        int kind = below(26);
        int f = number(files);
        if (kind < 3) {
            checks.due(at + "create(" + f + ")", real.create(f), model.create(f));
        } else if (kind < 5) {
            checks.due(at + "remove(" + f + ")", real.remove(f), model.remove(f));
        } else if (kind < 11) {
            int i = number(5);
            int word = word();
            checks.due(at + "write(" + f + ", " + i + ", " + word + ")",
                real.write(f, i, word), model.write(f, i, word));
        } else if (kind < 13) {
            int n = number(5);
            checks.due(at + "truncate(" + f + ", " + n + ")", real.truncate(f, n), model.truncate(f, n));
        } else if (kind < 15) {
            int g = number(files);
            checks.due(at + "copy(" + f + ", " + g + ")", real.copy(f, g), model.copy(f, g));
        } else if (kind < 18) {
            checks.due(at + "fsync(" + f + ")", real.fsync(f), model.fsync(f));
        } else if (kind == 18) {
            checks.due(at + "sync()", real.sync(), model.sync());
        } else if (kind == 19) {
            checks.due(at + "crash()", real.crash(), model.crash());
        } else if (kind == 20) {
            checks.due(at + "exists(" + f + ")", real.exists(f), model.exists(f));
        } else if (kind == 21) {
            checks.due(at + "size(" + f + ")", real.size(f), model.size(f));
        } else if (kind == 22) {
            int i = number(5);
            checks.due(at + "read(" + f + ", " + i + ")", real.read(f, i), model.read(f, i));
        } else if (kind == 23) {
            checks.due(at + "digest()", real.digest(), model.digest());
        } else {
            checks.due(at + "unsafe()", real.unsafe(), model.unsafe());
        }
    }
}
