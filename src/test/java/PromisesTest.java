/** Each promise of the document by itself: ordinary inputs, the edges it names, wrong inputs. */
public final class PromisesTest {
    private static final int BAD = -1;
    private static final int ABSENT = -3;
    private static final int LOWEST = Integer.MIN_VALUE;
    private static final int HIGHEST = Integer.MAX_VALUE;
    private static final int[] NO_FILES = {-1, 6, LOWEST, HIGHEST};

    private static final Checks checks = new Checks("the promises");

    public static void main(String[] args) {
        newObject();
        create();
        remove();
        write();
        writeRefusals();
        truncate();
        copy();
        copyRefusals();
        fsyncYoung();
        fsyncOld();
        youth();
        sync();
        crash();
        exists();
        size();
        read();
        unsafe();
        unsafeSeesOnlyWhatIsThere();
        digest();
        refusedCallsChangeNothing();
        objectsAreApart();
        checks.end();
    }

    private static void due(String call, long got, long want) {
        checks.due(call, got, want);
    }

    private static void due(String call, boolean got, boolean want) {
        checks.due(call, got, want);
    }

    private static void make(NodeTableFiles x, int f, int... words) {
        checks.make(x, f, words);
    }

    private static void dueWords(String what, NodeTableFiles x, int f, int... words) {
        checks.dueWords(what, x, f, words);
    }

    private static void newObject() {
        NodeTableFiles x = new NodeTableFiles();
        for (int f = 0; f < 6; f++) {
            due("1: exists", x.exists(f), false);
            due("1: size", x.size(f), ABSENT);
        }
        due("1: unsafe", x.unsafe(), 0);
        due("1: digest", x.digest(), 0);
        due("1: nothing lasts", x.crash(), 0);
        due("1: nothing to make last", x.sync(), 0);
    }

    private static void create() {
        NodeTableFiles x = new NodeTableFiles();
        for (int f = 0; f < 6; f++) {
            due("2: create", x.create(f), 0);
            dueWords("2: created", x, f);
            due("2: create again", x.create(f), ABSENT);
        }
        for (int f : NO_FILES) {
            due("2: create of no file", x.create(f), BAD);
        }
        NodeTableFiles y = new NodeTableFiles();
        make(y, 3, 7, 8, 9);
        y.remove(3);
        due("2: create after remove", y.create(3), 0);
        dueWords("2: no words come back", y, 3);
        y.write(3, 0, 1);
        due("2: create of one with words", y.create(3), ABSENT);
        dueWords("2: the refused create left it", y, 3, 1);
        due("2: create does not last", y.crash(), 0);
    }

    private static void remove() {
        NodeTableFiles x = new NodeTableFiles();
        for (int f : NO_FILES) {
            due("3: remove of no file", x.remove(f), BAD);
        }
        due("3: remove of an absent file", x.remove(2), ABSENT);
        make(x, 2);
        due("3: remove of an empty file", x.remove(2), 0);
        due("3: removed", x.exists(2), false);
        due("3: remove again", x.remove(2), ABSENT);
        make(x, 5, 1, 2, 3, 4);
        make(x, 4, 6);
        x.sync();
        due("3: remove of a full file", x.remove(5), 4);
        due("3: gone", x.exists(5), false);
        dueWords("3: the other stays", x, 4, 6);
        x.crash();
        dueWords("3: remove does not last", x, 5, 1, 2, 3, 4);
        x.remove(5);
        x.sync();
        due("3: a removed file is made to last", x.crash(), 1);
        due("3: removed for good", x.exists(5), false);
    }

    private static void write() {
        NodeTableFiles x = new NodeTableFiles();
        make(x, 0);
        make(x, 1, 50, 51, 52, 53);
        for (int i = 0; i < 4; i++) {
            due("4: write at the size grows", x.write(0, i, 10 + i), i + 1);
        }
        dueWords("4: written", x, 0, 10, 11, 12, 13);
        due("4: write inside", x.write(0, 1, LOWEST), 4);
        due("4: write the last place again", x.write(0, 3, HIGHEST), 4);
        dueWords("4: written inside", x, 0, 10, LOWEST, 12, HIGHEST);
        dueWords("4: the neighbour stays", x, 1, 50, 51, 52, 53);
        x.truncate(0, 2);
        due("4: write inside a shorter file", x.write(0, 0, -1), 2);
        dueWords("4: no growth inside", x, 0, -1, LOWEST);
    }

    private static void writeRefusals() {
        NodeTableFiles x = new NodeTableFiles();
        for (int f : NO_FILES) {
            due("4: write to no file", x.write(f, 0, 1), BAD);
        }
        due("4: write to an absent file", x.write(0, 0, 1), ABSENT);
        due("4: the file is tested before the place", x.write(0, -1, 1), ABSENT);
        due("4: the file is tested before place 4", x.write(0, 4, 1), ABSENT);
        make(x, 0);
        due("4: past the size of an empty file", x.write(0, 1, 1), BAD);
        make(x, 1, 1, 2);
        due("4: past the size", x.write(1, 3, 1), BAD);
        due("4: below 0", x.write(1, -1, 1), BAD);
        due("4: lowest", x.write(1, LOWEST, 1), BAD);
        due("4: highest", x.write(1, HIGHEST, 1), BAD);
        dueWords("4: refused writes", x, 1, 1, 2);
        make(x, 2, 1, 2, 3, 4);
        due("4: place 4 of a full file", x.write(2, 4, 9), BAD);
        due("4: place 5 of a full file", x.write(2, 5, 9), BAD);
        dueWords("4: a full file stays", x, 2, 1, 2, 3, 4);
        due("4: place 4 of a full file does not reach the next", x.exists(3), false);
    }

    private static void truncate() {
        NodeTableFiles x = new NodeTableFiles();
        for (int f : NO_FILES) {
            due("5: truncate of no file", x.truncate(f, 0), BAD);
        }
        due("5: truncate of an absent file", x.truncate(1, 0), ABSENT);
        due("5: the file is tested before n", x.truncate(1, -1), ABSENT);
        make(x, 1, 5, 6, 7, 8);
        due("5: n below 0", x.truncate(1, -1), BAD);
        due("5: n over the size", x.truncate(1, 5), BAD);
        due("5: n lowest", x.truncate(1, LOWEST), BAD);
        due("5: n highest", x.truncate(1, HIGHEST), BAD);
        due("5: n the size", x.truncate(1, 4), 4);
        dueWords("5: all stays", x, 1, 5, 6, 7, 8);
        due("5: shorter", x.truncate(1, 2), 4);
        dueWords("5: two left", x, 1, 5, 6);
        due("5: n over the new size", x.truncate(1, 3), BAD);
        due("5: to nothing", x.truncate(1, 0), 2);
        dueWords("5: empty", x, 1);
        due("5: nothing to nothing", x.truncate(1, 0), 0);
        due("5: n over 0", x.truncate(1, 1), BAD);
        due("5: grows again", x.write(1, 0, 9), 1);
        dueWords("5: old words do not come back", x, 1, 9);
    }

    private static void copy() {
        NodeTableFiles x = new NodeTableFiles();
        make(x, 0, 1, 2, 3);
        make(x, 5, 9);
        due("6: to a shorter file", x.copy(5, 0), 3);
        dueWords("6: copied", x, 5, 1, 2, 3);
        dueWords("6: the source stays", x, 0, 1, 2, 3);
        x.write(0, 0, 77);
        dueWords("6: the copy is apart", x, 5, 1, 2, 3);
        make(x, 2, 4);
        due("6: to a longer file", x.copy(5, 2), 1);
        dueWords("6: copied shorter", x, 5, 4);
        due("6: onto itself", x.copy(0, 0), 3);
        dueWords("6: itself stays", x, 0, 77, 2, 3);
        make(x, 3);
        due("6: of an empty file", x.copy(0, 3), 0);
        dueWords("6: copied empty", x, 0);
    }

    private static void copyRefusals() {
        NodeTableFiles x = new NodeTableFiles();
        make(x, 0, 1);
        for (int f : NO_FILES) {
            due("6: f no file", x.copy(f, 0), BAD);
            due("6: g no file", x.copy(0, f), BAD);
            due("6: both no file", x.copy(f, f), BAD);
            due("6: f no file, g absent", x.copy(f, 1), BAD);
            due("6: f absent, g no file", x.copy(1, f), BAD);
        }
        due("6: f absent", x.copy(1, 0), ABSENT);
        due("6: g absent", x.copy(0, 1), ABSENT);
        due("6: both absent", x.copy(1, 2), ABSENT);
        due("6: absent onto itself", x.copy(1, 1), ABSENT);
        due("6: f is not made", x.exists(1), false);
        dueWords("6: refused copies", x, 0, 1);
    }

    private static void fsyncYoung() {
        NodeTableFiles x = new NodeTableFiles();
        for (int f : NO_FILES) {
            due("7: fsync of no file", x.fsync(f), BAD);
        }
        due("7: fsync of an absent file", x.fsync(4), ABSENT);
        make(x, 0, 1);
        make(x, 1, 2);
        x.sync();
        x.remove(0);
        x.write(1, 1, 3);
        make(x, 2, 4);
        make(x, 3, 5);
        due("7: fsync of a young file", x.fsync(3), 1);
        due("7: the whole state lasts", x.unsafe(), 0);
        due("7: no file is young now", x.fsync(2), 0);
        due("7: nor the one itself", x.fsync(3), 0);
        due("7: files after the failure", x.crash(), 3);
        due("7: the removal lasts", x.exists(0), false);
        dueWords("7: the other change lasts", x, 1, 2, 3);
        dueWords("7: the other young file lasts", x, 2, 4);
        dueWords("7: the file lasts", x, 3, 5);
    }

    private static void fsyncOld() {
        NodeTableFiles x = new NodeTableFiles();
        make(x, 0, 1, 2);
        make(x, 1, 3);
        make(x, 2, 4);
        x.sync();
        x.write(0, 0, 11);
        x.truncate(0, 1);
        x.write(1, 0, 13);
        x.remove(2);
        make(x, 3, 5);
        due("7: fsync of an old file", x.fsync(0), 0);
        due("7: the others are still unsafe", x.unsafe(), 3);
        x.write(0, 0, 111);
        due("7: a later change is unsafe", x.unsafe(), 4);
        due("7: files after the failure", x.crash(), 3);
        dueWords("7: the old file lasts as at fsync", x, 0, 11);
        dueWords("7: another change is lost", x, 1, 3);
        dueWords("7: another removal is lost", x, 2, 4);
        due("7: the young file is lost", x.exists(3), false);
    }

    /** When a file is young, told by what fsync answers. */
    private static void youth() {
        NodeTableFiles x = new NodeTableFiles();
        make(x, 0, 1);
        make(x, 1, 2);
        x.sync();
        x.copy(0, 1);
        due("6: an old file stays old", x.fsync(0), 0);
        make(x, 2);
        x.copy(2, 0);
        due("7: fsync of an old file is no checkpoint", x.fsync(1), 0);
        due("6: a young file stays young", x.fsync(2), 1);
        x.remove(0);
        make(x, 0, 2);
        due("7: made again is young, though it is as it was", x.unsafe(), 0);
        due("7: fsync of the one made again", x.fsync(0), 1);
        x.remove(0);
        make(x, 0, 5);
        make(x, 4);
        x.crash();
        dueWords("9: the old one is back", x, 0, 2);
        due("9: and not young", x.fsync(0), 0);
        make(x, 4);
        x.remove(4);
        make(x, 4);
        due("7: twice made is young", x.fsync(4), 1);
        make(x, 5);
        due("8: sync", x.sync(), 5);
        due("8: no file is young after sync", x.fsync(5), 0);
    }

    private static void sync() {
        NodeTableFiles x = new NodeTableFiles();
        due("8: sync of nothing", x.sync(), 0);
        for (int f = 0; f < 6; f++) {
            make(x, f, f, -f);
            due("8: sync", x.sync(), f + 1);
        }
        x.remove(0);
        x.remove(3);
        x.write(4, 2, 9);
        due("8: sync after removals", x.sync(), 4);
        due("8: all is safe", x.unsafe(), 0);
        x.write(4, 0, 1);
        make(x, 0);
        due("8: files after the failure", x.crash(), 4);
        due("8: removals last", x.exists(0) || x.exists(3), false);
        dueWords("8: words last", x, 4, 4, -4, 9);
        dueWords("8: others last", x, 5, 5, -5);
    }

    private static void crash() {
        NodeTableFiles x = new NodeTableFiles();
        make(x, 0, 1, 2);
        make(x, 1, 3);
        x.sync();
        due("9: with nothing unsafe", x.crash(), 2);
        dueWords("9: stays", x, 0, 1, 2);
        x.write(0, 1, 22);
        x.write(0, 2, 23);
        x.truncate(1, 0);
        make(x, 2, 4);
        due("9: with changes", x.crash(), 2);
        dueWords("9: back to what lasts", x, 0, 1, 2);
        dueWords("9: back to what lasts", x, 1, 3);
        due("9: the new one is lost", x.exists(2), false);
        x.write(0, 0, 55);
        x.remove(1);
        due("9: what lasts is not changed by changes after a failure", x.crash(), 2);
        dueWords("9: back again", x, 0, 1, 2);
        dueWords("9: back again", x, 1, 3);
        due("9: twice", x.crash(), 2);
    }

    private static void exists() {
        NodeTableFiles x = new NodeTableFiles();
        make(x, 0);
        make(x, 5);
        for (int f : NO_FILES) {
            due("10: no file", x.exists(f), false);
        }
        for (int f = 0; f < 6; f++) {
            due("10: exists " + f, x.exists(f), f == 0 || f == 5);
        }
        x.sync();
        x.remove(5);
        due("10: exists now, not in the state that lasts", x.exists(5), false);
    }

    private static void size() {
        NodeTableFiles x = new NodeTableFiles();
        for (int f : NO_FILES) {
            due("11: no file", x.size(f), BAD);
        }
        due("11: absent", x.size(5), ABSENT);
        make(x, 5);
        due("11: empty", x.size(5), 0);
        for (int i = 0; i < 4; i++) {
            x.write(5, i, 1);
            due("11: size", x.size(5), i + 1);
        }
        x.remove(5);
        due("11: removed", x.size(5), ABSENT);
    }

    private static void read() {
        NodeTableFiles x = new NodeTableFiles();
        make(x, 1, 10, 20, 30);
        make(x, 2, 40);
        for (int f : NO_FILES) {
            due("12: no file", x.read(f, 0), 0);
        }
        due("12: absent", x.read(0, 0), 0);
        due("12: first", x.read(1, 0), 10);
        due("12: last", x.read(1, 2), 30);
        due("12: at the size", x.read(1, 3), 0);
        due("12: past the places, not the next file's", x.read(1, 4), 0);
        due("12: below 0, not the file before's", x.read(2, -1), 0);
        due("12: below 0, not the file before's", x.read(2, -4), 0);
        due("12: lowest", x.read(1, LOWEST), 0);
        due("12: highest", x.read(1, HIGHEST), 0);
        x.truncate(1, 1);
        due("12: cut off", x.read(1, 1), 0);
        x.remove(1);
        due("12: removed", x.read(1, 0), 0);
    }

    private static void unsafe() {
        NodeTableFiles x = new NodeTableFiles();
        for (int f = 0; f < 6; f++) {
            make(x, f);
            due("13: a new file", x.unsafe(), f + 1);
        }
        x.sync();
        due("13: after sync", x.unsafe(), 0);
        x.remove(0);
        due("13: a removal", x.unsafe(), 1);
        x.write(1, 0, 0);
        due("13: a size", x.unsafe(), 2);
        x.write(1, 1, 0);
        due("13: a file counts once", x.unsafe(), 2);
        x.truncate(1, 0);
        due("13: the size as it was", x.unsafe(), 1);
        make(x, 0);
        due("13: made again as it was", x.unsafe(), 0);
        x.crash();
        for (int i = 0; i < 4; i++) {
            x.write(5, i, i);
        }
        x.fsync(5);
        for (int i = 0; i < 4; i++) {
            x.write(5, i, 100);
            due("13: word " + i, x.unsafe(), 1);
            x.write(5, i, i);
            due("13: word as it was", x.unsafe(), 0);
        }
        x.remove(4);
        x.write(5, 0, 9);
        x.crash();
        due("13: after the failure", x.unsafe(), 0);
    }

    private static void unsafeSeesOnlyWhatIsThere() {
        NodeTableFiles x = new NodeTableFiles();
        make(x, 0, 1, 2);
        x.remove(0);
        due("13: made and removed", x.unsafe(), 0);
        make(x, 0, 1);
        x.sync();
        x.write(0, 1, 7);
        x.truncate(0, 1);
        due("13: a word past the size", x.unsafe(), 0);
        x.write(0, 1, 8);
        x.fsync(0);
        x.truncate(0, 1);
        due("13: shorter", x.unsafe(), 1);
        x.write(0, 1, 8);
        due("13: as it was", x.unsafe(), 0);
        x.remove(0);
        x.sync();
        make(x, 0, 5);
        x.remove(0);
        due("13: removed for good, made and removed", x.unsafe(), 0);
    }

    private static void digest() {
        NodeTableFiles x = new NodeTableFiles();
        for (int f = 0; f < 6; f++) {
            make(x, f);
            due("14: an empty file", x.digest(), 1000 * (f + 1) * (f + 2) / 2);
        }
        for (int f = 0; f < 6; f++) {
            NodeTableFiles y = new NodeTableFiles();
            make(y, f, 1, 100, 10000, 1000000);
            int words = (8 * f + 1) + (8 * f + 2) * 100 + (8 * f + 3) * 10000 + (8 * f + 4) * 1000000;
            due("14: a full file", y.digest(), words + 5000 * (f + 1));
            y.truncate(f, 1);
            due("14: cut off words do not count", y.digest(), 8 * f + 1 + 2000 * (f + 1));
            y.remove(f);
            due("14: a removed file does not count", y.digest(), 0);
        }
        NodeTableFiles z = new NodeTableFiles();
        make(z, 5, 0, 0, 0, HIGHEST);
        due("14: wraps", z.digest(), (int) (44L * HIGHEST + 30000));
        z.write(5, 2, LOWEST);
        due("14: wraps below", z.digest(), (int) (44L * HIGHEST + 43L * LOWEST + 30000));
        make(z, 0, -3);
        due("14: two files", z.digest(), (int) (44L * HIGHEST + 43L * LOWEST + 30000 - 3 + 2000));
    }

    private static void refusedCallsChangeNothing() {
        NodeTableFiles x = new NodeTableFiles();
        make(x, 0, 1, 2, 3, 4);
        make(x, 1, 5);
        x.sync();
        x.write(1, 0, 6);
        make(x, 2, 7);
        int digest = x.digest();
        x.create(0);
        x.create(1);
        for (int f : NO_FILES) {
            x.create(f);
            x.remove(f);
            x.write(f, 0, 99);
            x.truncate(f, 0);
            x.copy(f, 0);
            x.copy(1, f);
            x.fsync(f);
        }
        x.remove(3);
        x.write(3, 0, 99);
        x.write(0, 4, 99);
        x.write(1, 2, 99);
        x.truncate(3, 0);
        x.truncate(1, 2);
        x.copy(3, 0);
        x.copy(1, 3);
        x.fsync(3);
        due("refused: the state now", x.digest(), digest);
        due("refused: the state that lasts", x.unsafe(), 2);
        due("refused: an old file refused by create is not young", x.fsync(0), 0);
        due("refused: the power fails", x.crash(), 2);
        dueWords("refused: lasting", x, 0, 1, 2, 3, 4);
        dueWords("refused: lasting", x, 1, 5);
    }

    private static void objectsAreApart() {
        NodeTableFiles x = new NodeTableFiles();
        make(x, 0, 1);
        x.sync();
        NodeTableFiles y = new NodeTableFiles();
        due("1: another object's file", y.exists(0), false);
        due("1: another object's lasting file", y.crash(), 0);
        dueWords("1: the first object's file", x, 0, 1);
    }
}
