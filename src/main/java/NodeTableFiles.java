/**
 * Files whose changes live in memory until they are made to last, file by file or all at once,
 * and what is left when the power fails.
 */
public final class NodeTableFiles {
    public static final int BAD_ARG = -1;
    public static final int ABSENT = -3;

    private static final int FILES = 6;
    private static final int PLACES = 4;
    private static final int WORDS = FILES * PLACES;
    private static final int ALLOWED = 0;

    // Word i of file f stands at f * PLACES + i. Words at or past a file's size are left-overs:
    // every reader looks at the size first, so they need not be cleared.
    private final boolean[] existsNow = new boolean[FILES];
    private final int[] sizeNow = new int[FILES];
    private final int[] wordsNow = new int[WORDS];

    private final boolean[] existsLasting = new boolean[FILES];
    private final int[] sizeLasting = new int[FILES];
    private final int[] wordsLasting = new int[WORDS];

    // Means something only for a file that exists now: create sets it anew each time.
    private final boolean[] young = new boolean[FILES];

    public NodeTableFiles() {
    }

    public int create(int f) {
        if (!isFileNumber(f)) {
            return BAD_ARG;
        }
        if (existsNow[f]) {
            return ABSENT;
        }
        existsNow[f] = true;
        sizeNow[f] = 0;
        young[f] = true;
        return 0;
    }

    public int remove(int f) {
        int refusal = refusalOf(f);
        if (refusal != ALLOWED) {
            return refusal;
        }
        existsNow[f] = false;
        return sizeNow[f];
    }

    public int write(int f, int i, int word) {
        int refusal = refusalOf(f);
        if (refusal != ALLOWED) {
            return refusal;
        }
        if (i < 0 || i > sizeNow[f] || i >= PLACES) {
            return BAD_ARG;
        }
        wordsNow[f * PLACES + i] = word;
        if (i == sizeNow[f]) {
            sizeNow[f] = i + 1;
        }
        return sizeNow[f];
    }

    public int truncate(int f, int n) {
        int refusal = refusalOf(f);
        if (refusal != ALLOWED) {
            return refusal;
        }
        int before = sizeNow[f];
        if (n < 0 || n > before) {
            return BAD_ARG;
        }
        sizeNow[f] = n;
        return before;
    }

    public int copy(int f, int g) {
        // Both numbers come before both existences: copy of an absent file and a bad number is BAD_ARG.
        if (!isFileNumber(f) || !isFileNumber(g)) {
            return BAD_ARG;
        }
        if (!existsNow[f] || !existsNow[g]) {
            return ABSENT;
        }
        sizeNow[f] = sizeNow[g];
        copyWords(wordsNow, g, wordsNow, f);
        return sizeNow[f];
    }

    public int fsync(int f) {
        int refusal = refusalOf(f);
        if (refusal != ALLOWED) {
            return refusal;
        }
        if (young[f]) {
            makeCheckpoint();
            return 1;
        }
        makeLast(f);
        return 0;
    }

    public int sync() {
        makeCheckpoint();
        return countExisting();
    }

    public int crash() {
        for (int f = 0; f < FILES; f++) {
            existsNow[f] = existsLasting[f];
            sizeNow[f] = sizeLasting[f];
            copyWords(wordsLasting, f, wordsNow, f);
            young[f] = false;
        }
        return countExisting();
    }

    public boolean exists(int f) {
        return isFileNumber(f) && existsNow[f];
    }

    public int size(int f) {
        int refusal = refusalOf(f);
        if (refusal != ALLOWED) {
            return refusal;
        }
        return sizeNow[f];
    }

    public int read(int f, int i) {
        if (refusalOf(f) != ALLOWED) {
            return 0;
        }
        if (i < 0 || i >= sizeNow[f]) {
            return 0;
        }
        return wordsNow[f * PLACES + i];
    }

    public int unsafe() {
        int count = 0;
        for (int f = 0; f < FILES; f++) {
            if (wouldChange(f)) {
                count++;
            }
        }
        return count;
    }

    public int digest() {
        int sum = 0;
        for (int f = 0; f < FILES; f++) {
            if (existsNow[f]) {
                sum += digestOfFile(f);
            }
        }
        return sum;
    }

    private static boolean isFileNumber(int f) {
        return f >= 0 && f < FILES;
    }

    private int refusalOf(int f) {
        if (!isFileNumber(f)) {
            return BAD_ARG;
        }
        return existsNow[f] ? ALLOWED : ABSENT;
    }

    private static void copyWords(int[] from, int g, int[] to, int f) {
        for (int i = 0; i < PLACES; i++) {
            to[f * PLACES + i] = from[g * PLACES + i];
        }
    }

    private void makeLast(int f) {
        existsLasting[f] = existsNow[f];
        sizeLasting[f] = sizeNow[f];
        copyWords(wordsNow, f, wordsLasting, f);
    }

    private void makeCheckpoint() {
        for (int f = 0; f < FILES; f++) {
            makeLast(f);
            young[f] = false;
        }
    }

    private int countExisting() {
        int count = 0;
        for (int f = 0; f < FILES; f++) {
            if (existsNow[f]) {
                count++;
            }
        }
        return count;
    }

    private boolean wouldChange(int f) {
        if (existsNow[f] != existsLasting[f]) {
            return true;
        }
        // A file absent in both states keeps left-over sizes and words that nobody can see.
        if (!existsNow[f]) {
            return false;
        }
        if (sizeNow[f] != sizeLasting[f]) {
            return true;
        }
        for (int i = 0; i < sizeNow[f]; i++) {
            if (wordsNow[f * PLACES + i] != wordsLasting[f * PLACES + i]) {
                return true;
            }
        }
        return false;
    }

    private int digestOfFile(int f) {
        int sum = 1000 * (f + 1) * (sizeNow[f] + 1);
        for (int i = 0; i < sizeNow[f]; i++) {
            sum += (8 * f + i + 1) * wordsNow[f * PLACES + i];
        }
        return sum;
    }
}
