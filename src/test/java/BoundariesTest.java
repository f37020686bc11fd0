/** The sentences under the promises that name a boundary case, each with a test of its own. */
public final class BoundariesTest {
    private static final int BAD = -1;
    private static final int ABSENT = -3;
    private static final int LOWEST = Integer.MIN_VALUE;
    private static final int HIGHEST = Integer.MAX_VALUE;

    // Some of these fall on a good number if they are cut to fewer bits or multiplied by 4 or 8.
    private static final int[] NO_FILES = {-1, 6, -6, 7, 256, 65536, 1 << 30, -(1 << 30), LOWEST, HIGHEST};
    private static final int[] FAR = {-2, -4, 6, 8, 256, 65536, 1 << 30, -(1 << 30), LOWEST, HIGHEST};

    private static final Checks checks = new Checks("the boundaries");

    public static void main(String[] args) {
        newObjectIsEmpty();
        createMakesAnEmptyFile();
        removeEndsTheFile();
        removeAnswersTheSize();
        writeGrowsAtTheSize();
        writeRefusesPlaces();
        writeAnswersTheSize();
        truncateSetsTheSize();
        truncateRefusesSizes();
        truncateAnswersTheSizeBefore();
        copyTakesSizeAndWords();
        copyKeepsTheFile();
        copyRefusesInOrder();
        copyAnswersTheSize();
        fsyncOfAYoungFile();
        fsyncOfAnotherFile();
        fsyncAnswers();
        syncAnswersHowMany();
        crashAnswersHowMany();
        existsOrNot();
        sizeOfTheFile();
        readOrNothing();
        unsafeFromNoneToAll();
        unsafeCountsWhatWouldChange();
        digestWraps();
        digestOverExistingFiles();
        checks.end();
    }

    private static void due(String call, long got, long want) {
        checks.due(call, got, want);
    }

    /** The words 10, 11, 12, 13 cut to the size. */
    private static int[] words(int size) {
        int[] words = new int[size];
        for (int i = 0; i < size; i++) {
            words[i] = 10 + i;
        }
        return words;
    }

    /** An object in which this file alone exists, young, with this size. */
    private static NodeTableFiles with(int f, int size) {
        NodeTableFiles x = new NodeTableFiles();
        checks.make(x, f, words(size));
        return x;
    }

    /** As with, but all other places of the six files have held a word that was removed. */
    private static NodeTableFiles withLeftOvers(int f, int size) {
        NodeTableFiles x = new NodeTableFiles();
        for (int g = 0; g < 6; g++) {
            checks.make(x, g, 91, 92, 93, 94);
            due("make left-overs: remove", x.remove(g), 4);
        }
        checks.make(x, f, words(size));
        return x;
    }

    private static void newObjectIsEmpty() {
        checks.sentence("No file exists, now and in the state that lasts.");
        NodeTableFiles x = new NodeTableFiles();
        for (int f = 0; f < 6; f++) {
            checks.dueAbsent("now: " + f, x, f);
        }
        due("now: digest", x.digest(), 0);
        due("unsafe", x.unsafe(), 0);
        due("in the state that lasts", x.crash(), 0);
        for (int f = 0; f < 6; f++) {
            checks.dueAbsent("lasting: " + f, x, f);
        }
        due("sync", new NodeTableFiles().sync(), 0);
    }

    private static void createMakesAnEmptyFile() {
        checks.sentence("The file exists from now on, with size 0. Answers 0.");
        for (int f = 0; f < 6; f++) {
            NodeTableFiles x = new NodeTableFiles();
            due("create", x.create(f), 0);
            checks.dueWords("empty", x, f);
            due("no other", x.sync(), 1);
            for (int i = 0; i < 4; i++) {
                due("write", x.write(f, i, i + 5), i + 1);
            }
            x.sync();
            x.remove(f);
            due("create after a full one", x.create(f), 0);
            checks.dueWords("empty again, though a full one lasts", x, f);
            due("it grows from 0", x.write(f, 0, 1), 1);
            checks.dueWords("one word", x, f, 1);
        }
    }

    private static void removeEndsTheFile() {
        checks.sentence("The file no longer exists now.");
        for (int f = 0; f < 6; f++) {
            NodeTableFiles x = new NodeTableFiles();
            for (int g = 0; g < 6; g++) {
                checks.make(x, g, g, g, g, g);
            }
            x.sync();
            x.remove(f);
            checks.dueAbsent("removed", x, f);
            for (int g = 0; g < 6; g++) {
                if (g != f) {
                    checks.dueWords("another", x, g, g, g, g, g);
                }
            }
            due("remove again", x.remove(f), ABSENT);
            due("it still lasts", x.crash(), 6);
            checks.dueWords("back", x, f, f, f, f, f);
        }
    }

    private static void removeAnswersTheSize() {
        checks.sentence("Answers the size it had.");
        for (int size = 0; size <= 4; size++) {
            due("remove at size " + size, with(5, size).remove(5), size);
            NodeTableFiles x = with(0, 4);
            x.sync();
            x.truncate(0, size);
            due("the size now, not the one that lasts", x.remove(0), size);
        }
    }

    private static void writeGrowsAtTheSize() {
        checks.sentence("Place i of the file gets the word; if i is its size, the size grows by one.");
        for (int size = 0; size <= 4; size++) {
            for (int i = 0; i <= size && i < 4; i++) {
                for (int word : new int[] {LOWEST, HIGHEST, 0, -1}) {
                    NodeTableFiles x = with(2, size);
                    x.write(2, i, word);
                    int[] want = words(i == size ? size + 1 : size);
                    want[i] = word;
                    checks.dueWords("place " + i + " of " + size, x, 2, want);
                }
            }
        }
    }

    private static void writeRefusesPlaces() {
        checks.sentence("Tested (after the file): i not 0 to its size, or i = 4, answers BAD_ARG.");
        for (int f = 0; f < 6; f += 5) {
            for (int size = 0; size <= 4; size++) {
                NodeTableFiles x = withLeftOvers(f, size);
                String at = "file " + f + " of size " + size + ": ";
                due(at + "below 0", x.write(f, -1, 99), BAD);
                due(at + "over the size", x.write(f, size + 1, 99), BAD);
                due(at + "place 4", x.write(f, 4, 99), BAD);
                for (int i : FAR) {
                    due(at + "far", x.write(f, i, 99), BAD);
                }
                checks.dueWords(at + "stays", x, f, words(size));
                due(at + "no other is made", x.sync(), 1);
                due(at + "the size is right, but for 4", x.write(f, size, 99), size < 4 ? size + 1 : BAD);
                x.remove(f);
                due(at + "after the file", x.write(f, -1, 99), ABSENT);
                due(at + "after the file", x.write(f, 4, 99), ABSENT);
            }
        }
        due("after the number", new NodeTableFiles().write(6, -1, 99), BAD);
    }

    private static void writeAnswersTheSize() {
        checks.sentence("Otherwise the size.");
        for (int size = 0; size <= 4; size++) {
            for (int i = 0; i < size; i++) {
                due("write inside, size " + size, with(1, size).write(1, i, -5), size);
            }
            if (size < 4) {
                due("write at the size " + size, with(1, size).write(1, size, -5), size + 1);
            }
        }
    }

    private static void truncateSetsTheSize() {
        checks.sentence("The size becomes n.");
        for (int size = 0; size <= 4; size++) {
            for (int n = 0; n <= size; n++) {
                NodeTableFiles x = with(3, size);
                x.truncate(3, n);
                checks.dueWords("from " + size + " to " + n, x, 3, words(n));
                due("the next write at " + n, x.write(3, n, 77), n < 4 ? n + 1 : BAD);
                due("what was cut off does not come back", x.read(3, n + 1), 0);
            }
        }
    }

    private static void truncateRefusesSizes() {
        checks.sentence("Tested (after the file): n not 0 to its size answers BAD_ARG.");
        for (int size = 0; size <= 4; size++) {
            NodeTableFiles x = with(0, size);
            String at = "size " + size + ": ";
            due(at + "below 0", x.truncate(0, -1), BAD);
            for (int n = size + 1; n <= 5; n++) {
                due(at + "over the size: " + n, x.truncate(0, n), BAD);
            }
            for (int n : FAR) {
                due(at + "far", x.truncate(0, n), BAD);
            }
            checks.dueWords(at + "stays", x, 0, words(size));
            due(at + "the size itself", x.truncate(0, size), size);
            checks.dueWords(at + "stays", x, 0, words(size));
            x.remove(0);
            due(at + "after the file", x.truncate(0, -1), ABSENT);
            due(at + "after the file", x.truncate(0, 5), ABSENT);
        }
        due("after the number", new NodeTableFiles().truncate(-1, 5), BAD);
    }

    private static void truncateAnswersTheSizeBefore() {
        checks.sentence("Otherwise the size before.");
        for (int size = 0; size <= 4; size++) {
            for (int n = 0; n <= size; n++) {
                NodeTableFiles x = with(4, size);
                due("from " + size + " to " + n, x.truncate(4, n), size);
                due("and to 0", x.truncate(4, 0), n);
            }
        }
    }

    private static void copyTakesSizeAndWords() {
        checks.sentence("File f takes the size and words of file g");
        for (int f = 0; f < 6; f++) {
            for (int g = 0; g < 6; g++) {
                for (int size = 0; size <= 4; size++) {
                    NodeTableFiles x = with(g, size);
                    if (f != g) {
                        checks.make(x, f, 4, 3, 2, 1);
                        x.truncate(f, 4 - size);
                    }
                    x.copy(f, g);
                    checks.dueWords("f, size " + size, x, f, words(size));
                    checks.dueWords("g, size " + size, x, g, words(size));
                    due("no other", x.sync(), f == g ? 1 : 2);
                }
            }
        }
    }

    private static void copyKeepsTheFile() {
        checks.sentence("(f keeps being the file it is)");
        NodeTableFiles x = with(0, 2);
        x.sync();
        checks.make(x, 1, 5);
        x.copy(0, 1);
        due("an old file stays old when a young one is copied", x.fsync(0), 0);
        x.copy(1, 0);
        due("a young file stays young when an old one is copied", x.fsync(1), 1);
        NodeTableFiles y = with(2, 4);
        y.copy(2, 2);
        due("a young file copied onto itself", y.fsync(2), 1);
        y.copy(2, 2);
        due("an old file copied onto itself", y.fsync(2), 0);
        NodeTableFiles z = with(3, 1);
        checks.make(z, 4);
        z.sync();
        z.copy(4, 3);
        z.write(3, 0, 99);
        checks.dueWords("a later write to g is not seen in f", z, 4, 10);
        z.write(4, 0, 98);
        checks.dueWords("a later write to f is not seen in g", z, 3, 99);
        due("copy alone does not last", z.crash(), 2);
        checks.dueWords("f as it lasts", z, 4);
    }

    private static void copyRefusesInOrder() {
        checks.sentence("Tested in this order: f and g not 0 to 5 answers BAD_ARG; one does not exist answers ABSENT.");
        NodeTableFiles x = with(0, 4);
        for (int bad : NO_FILES) {
            due("f bad", x.copy(bad, 0), BAD);
            due("g bad", x.copy(0, bad), BAD);
            due("both bad", x.copy(bad, bad), BAD);
            due("f bad before g absent", x.copy(bad, 5), BAD);
            due("g bad before f absent", x.copy(5, bad), BAD);
        }
        due("f absent", x.copy(5, 0), ABSENT);
        due("g absent", x.copy(0, 5), ABSENT);
        due("both absent", x.copy(4, 5), ABSENT);
        due("an absent file onto itself", x.copy(5, 5), ABSENT);
        checks.dueWords("stays", x, 0, words(4));
        due("no other is made", x.sync(), 1);
        x.remove(0);
        due("a file that lasts, but not now", x.copy(0, 0), ABSENT);
        checks.make(x, 1);
        due("from a file that lasts, but not now", x.copy(1, 0), ABSENT);
        checks.dueWords("stays empty", x, 1);
    }

    private static void copyAnswersTheSize() {
        checks.sentence("Otherwise the size.");
        for (int from = 0; from <= 4; from++) {
            for (int to = 0; to <= 4; to++) {
                NodeTableFiles x = with(5, from);
                checks.make(x, 0, words(to));
                due("from size " + from + " to size " + to, x.copy(0, 5), from);
            }
            due("onto itself, size " + from, with(5, from).copy(5, 5), from);
        }
    }

    private static void fsyncOfAYoungFile() {
        checks.sentence("Makes the file last: if it is young, a checkpoint is made;");
        for (int size = 0; size <= 4; size++) {
            NodeTableFiles x = with(5, 4);
            checks.make(x, 4, 8);
            x.sync();
            x.remove(5);
            x.write(4, 0, 9);
            checks.make(x, 0, words(size));
            checks.make(x, 1, 7);
            x.fsync(0);
            due("all is safe", x.unsafe(), 0);
            due("after the failure", x.crash(), 3);
            checks.dueWords("the file", x, 0, words(size));
            checks.dueWords("another young one", x, 1, 7);
            checks.dueWords("a change", x, 4, 9);
            checks.dueAbsent("a removal", x, 5);
        }
        NodeTableFiles y = with(3, 4);
        y.sync();
        y.remove(3);
        y.create(3);
        checks.make(y, 2, 1);
        y.fsync(3);
        due("made again, empty, in place of a full one", y.crash(), 2);
        checks.dueWords("empty lasts", y, 3);
        checks.dueWords("by a checkpoint", y, 2, 1);
    }

    private static void fsyncOfAnotherFile() {
        checks.sentence("otherwise the file with its size and words now takes the place of what there is of it"
            + " in the state that lasts (and exists there).");
        for (int before = 0; before <= 4; before++) {
            for (int after = 0; after <= 4; after++) {
                NodeTableFiles x = with(2, 4);
                x.truncate(2, before);
                checks.make(x, 1, 1);
                checks.make(x, 3, 3);
                x.sync();
                x.truncate(2, 0);
                for (int i = 0; i < after; i++) {
                    x.write(2, i, 10 + i);
                }
                x.write(1, 0, 99);
                x.remove(3);
                checks.make(x, 0);
                x.fsync(2);
                due("the others are as unsafe as before", x.unsafe(), 3);
                due("after the failure", x.crash(), 3);
                checks.dueWords("from size " + before + " to " + after, x, 2, words(after));
                checks.dueWords("no other change lasts", x, 1, 1);
                checks.dueWords("no removal lasts", x, 3, 3);
                checks.dueAbsent("no young file lasts", x, 0);
            }
        }
    }

    private static void fsyncAnswers() {
        checks.sentence("Answers 1 if a checkpoint was made, else 0.");
        for (int f = 0; f < 6; f++) {
            for (int size = 0; size <= 4; size++) {
                NodeTableFiles x = with(f, size);
                due("young", x.fsync(f), 1);
                due("at once again", x.fsync(f), 0);
                x.truncate(f, 0);
                due("old and changed", x.fsync(f), 0);
                x.crash();
                due("after a failure", x.fsync(f), 0);
                x.remove(f);
                due("removed", x.fsync(f), ABSENT);
            }
        }
        for (int f : NO_FILES) {
            due("no file", with(0, 1).fsync(f), BAD);
        }
    }

    private static void syncAnswersHowMany() {
        checks.sentence("Makes a checkpoint. Answers how many files exist.");
        NodeTableFiles x = new NodeTableFiles();
        due("none", x.sync(), 0);
        for (int f = 5; f >= 0; f--) {
            checks.make(x, f);
            due("with " + f, x.sync(), 6 - f);
            due("again", x.sync(), 6 - f);
            due("they last", x.crash(), 6 - f);
            due("none is young", x.fsync(f), 0);
        }
        for (int f = 0; f < 6; f++) {
            x.remove(f);
            due("without " + f, x.sync(), 5 - f);
            due("the removal lasts", x.crash(), 5 - f);
        }
    }

    private static void crashAnswersHowMany() {
        checks.sentence("The power fails and comes back. Answers how many files exist afterwards.");
        NodeTableFiles x = new NodeTableFiles();
        due("none", x.crash(), 0);
        for (int f = 0; f < 6; f++) {
            for (int g = f; g < 6; g++) {
                checks.make(x, g);
            }
            due("afterwards, not before", x.crash(), f);
            checks.make(x, f, 1, 2, 3, 4);
            x.sync();
            for (int g = 0; g <= f; g++) {
                x.remove(g);
            }
            due("afterwards, though none was left", x.crash(), f + 1);
            due("again", x.crash(), f + 1);
            checks.dueWords("back", x, f, 1, 2, 3, 4);
        }
    }

    private static void existsOrNot() {
        checks.sentence("Whether the file exists now; false if f is not 0 to 5.");
        NodeTableFiles x = new NodeTableFiles();
        for (int f = 0; f < 6; f++) {
            checks.due("never made", x.exists(f), false);
            x.create(f);
            checks.due("just made, empty", x.exists(f), true);
        }
        for (int f : NO_FILES) {
            checks.due("exists(" + f + ") beside all six", x.exists(f), false);
            checks.due("exists(" + f + ") beside none", new NodeTableFiles().exists(f), false);
        }
        x.sync();
        for (int f = 0; f < 6; f++) {
            x.remove(f);
            checks.due("lasts, but not now", x.exists(f), false);
        }
        x.crash();
        for (int f = 0; f < 6; f++) {
            checks.due("back", x.exists(f), true);
        }
    }

    private static void sizeOfTheFile() {
        checks.sentence("The size of the file.");
        for (int f = 0; f < 6; f++) {
            for (int size = 0; size <= 4; size++) {
                NodeTableFiles x = with(f, size);
                due("file " + f, x.size(f), size);
                x.sync();
                x.truncate(f, 0);
                due("now, not the one that lasts", x.size(f), 0);
                x.remove(f);
                due("removed", x.size(f), ABSENT);
                x.crash();
                due("back", x.size(f), size);
                for (int g : NO_FILES) {
                    due("no file", x.size(g), BAD);
                }
            }
        }
    }

    private static void readOrNothing() {
        checks.sentence("The word at place i of the file; 0 if there is none (also if f is not 0 to 5 or does not exist).");
        for (int f = 0; f < 6; f++) {
            for (int size = 0; size <= 4; size++) {
                NodeTableFiles x = withLeftOvers(f, size);
                for (int i = 0; i <= 5; i++) {
                    due("place " + i + " of " + size, x.read(f, i), i < size ? 10 + i : 0);
                }
                due("below 0", x.read(f, -1), 0);
                for (int i : FAR) {
                    due("far", x.read(f, i), 0);
                }
                x.sync();
                x.remove(f);
                for (int i = 0; i < 4; i++) {
                    due("removed", x.read(f, i), 0);
                    due("never made", new NodeTableFiles().read(f, i), 0);
                }
            }
        }
        NodeTableFiles all = new NodeTableFiles();
        for (int f = 0; f < 6; f++) {
            checks.make(all, f, 81, 82, 83, 84);
        }
        for (int f : NO_FILES) {
            for (int i = -1; i < 5; i++) {
                due("no file", all.read(f, i), 0);
            }
        }
        for (int f = 0; f < 6; f++) {
            due("below 0 beside full files", all.read(f, -1), 0);
            due("place 4 beside full files", all.read(f, 4), 0);
        }
    }

    private static void unsafeFromNoneToAll() {
        checks.sentence("The number of files f");
        NodeTableFiles x = new NodeTableFiles();
        due("none", x.unsafe(), 0);
        for (int f = 0; f < 6; f++) {
            x.create(f);
            due("made", x.unsafe(), f + 1);
        }
        x.sync();
        due("all safe", x.unsafe(), 0);
        for (int f = 5; f >= 0; f--) {
            x.remove(f);
            due("removed", x.unsafe(), 6 - f);
        }
        x.crash();
        due("after the failure", x.unsafe(), 0);
        for (int f = 0; f < 6; f++) {
            x.write(f, 0, 0);
            due("written", x.unsafe(), f + 1);
            x.write(f, 1, 0);
            due("counted once", x.unsafe(), f + 1);
        }
        for (int f = 0; f < 6; f++) {
            x.fsync(f);
            due("made to last one by one", x.unsafe(), 5 - f);
        }
    }

    private static void unsafeCountsWhatWouldChange() {
        checks.sentence("for which a failure of the power now would change whether it exists, its size or a word.");
        for (int f = 0; f < 6; f++) {
            NodeTableFiles x = new NodeTableFiles();
            checks.make(x, f, 5, 6, 7, 8);
            due("whether it exists: made", x.unsafe(), 1);
            x.remove(f);
            due("made and removed", x.unsafe(), 0);
            checks.make(x, f, 5, 6, 7, 8);
            x.sync();
            x.remove(f);
            due("whether it exists: removed", x.unsafe(), 1);
            checks.make(x, f, 5, 6, 7, 8);
            due("made again as it lasts", x.unsafe(), 0);
            for (int i = 0; i < 4; i++) {
                x.write(f, i, LOWEST);
                due("word " + i, x.unsafe(), 1);
                x.write(f, i, 5 + i);
                due("word " + i + " as it lasts", x.unsafe(), 0);
            }
            for (int n = 3; n >= 0; n--) {
                x.truncate(f, n);
                due("size " + n, x.unsafe(), 1);
            }
            for (int i = 0; i < 4; i++) {
                due("size " + i + " before the last word", x.unsafe(), 1);
                x.write(f, i, 5 + i);
            }
            due("size and words as they last", x.unsafe(), 0);
            x.truncate(f, 2);
            x.fsync(f);
            x.write(f, 2, 0);
            due("longer by a word 0", x.unsafe(), 1);
            x.write(f, 2, 99);
            x.truncate(f, 2);
            due("a word that was cut off", x.unsafe(), 0);
            x.truncate(f, 0);
            x.fsync(f);
            due("empty in both", x.unsafe(), 0);
            x.remove(f);
            due("an empty file removed", x.unsafe(), 1);
            x.sync();
            due("absent in both", x.unsafe(), 0);
        }
    }

    private static void digestWraps() {
        checks.sentence("The sum, wrapping, over the existing files f and their places i of (8 f + i + 1) times the word,");
        for (int f = 0; f < 6; f++) {
            for (int i = 0; i < 4; i++) {
                for (int word : new int[] {LOWEST, LOWEST + 1, -1, 0, 1, 1 << 30, HIGHEST - 1, HIGHEST}) {
                    NodeTableFiles x = new NodeTableFiles();
                    x.create(f);
                    for (int k = 0; k < 4; k++) {
                        x.write(f, k, k == i ? word : 0);
                    }
                    long exact = (8L * f + i + 1) * word + 5000L * (f + 1);
                    due("file " + f + ", place " + i + ", word " + word, x.digest(), (int) exact);
                }
            }
        }
        for (int word : new int[] {LOWEST, -1, 1, HIGHEST}) {
            NodeTableFiles x = new NodeTableFiles();
            long exact = 0;
            for (int f = 0; f < 6; f++) {
                checks.make(x, f, word, word, word, word);
                exact += 5000L * (f + 1);
                for (int i = 0; i < 4; i++) {
                    exact += (8L * f + i + 1) * word;
                }
                due("all words " + word + " to file " + f, x.digest(), (int) exact);
            }
        }
    }

    private static void digestOverExistingFiles() {
        checks.sentence("plus the sum over the existing files f of 1000 (f + 1) times (size + 1).");
        due("no file", new NodeTableFiles().digest(), 0);
        for (int f = 0; f < 6; f++) {
            for (int size = 0; size <= 4; size++) {
                NodeTableFiles x = new NodeTableFiles();
                checks.make(x, f, 0, 0, 0, 0);
                x.truncate(f, size);
                due("file " + f + " of size " + size, x.digest(), 1000 * (f + 1) * (size + 1));
                x.sync();
                x.remove(f);
                due("removed, though it lasts", x.digest(), 0);
            }
        }
        NodeTableFiles all = new NodeTableFiles();
        for (int f = 0; f < 6; f++) {
            checks.make(all, f, 7, 7, 7, 7);
            all.truncate(f, 0);
        }
        due("six empty files, with words cut off", all.digest(), 21000);
    }
}
