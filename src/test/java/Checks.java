/** Counts and prints the answers that are not as due. */
final class Checks {
    private final String about;
    private String sentence = "";
    private int made = 0;
    private int wrong = 0;

    Checks(String about) {
        this.about = about;
    }

    /** The sentence of the document that the checks from here on are for. */
    void sentence(String words) {
        sentence = " \"" + words + "\"";
    }

    void due(String call, long got, long want) {
        made++;
        if (got != want) {
            wrong++;
            System.out.println(about + ":" + sentence + " " + call + " answered " + got + ", due is " + want);
        }
    }

    void due(String call, boolean got, boolean want) {
        due(call, got ? 1L : 0L, want ? 1L : 0L);
    }

    /** Makes a file with these words; the file must not exist. */
    void make(NodeTableFiles x, int f, int... words) {
        due("make: create " + f, x.create(f), 0);
        for (int i = 0; i < words.length; i++) {
            due("make: write " + f + " " + i, x.write(f, i, words[i]), i + 1);
        }
    }

    /** The file exists, with just these words. */
    void dueWords(String what, NodeTableFiles x, int f, int... words) {
        due(what + ": exists", x.exists(f), true);
        due(what + ": size", x.size(f), words.length);
        for (int i = 0; i < words.length; i++) {
            due(what + ": word " + i, x.read(f, i), words[i]);
        }
        for (int i = words.length; i < 5; i++) {
            due(what + ": no word " + i, x.read(f, i), 0);
        }
    }

    /** The file does not exist, and no word of it is to be seen. */
    void dueAbsent(String what, NodeTableFiles x, int f) {
        due(what + ": exists", x.exists(f), false);
        due(what + ": size", x.size(f), -3);
        for (int i = 0; i < 5; i++) {
            due(what + ": no word " + i, x.read(f, i), 0);
        }
    }

    int wrong() {
        return wrong;
    }

    /** Ends the program with exit code 1 if an answer was wrong. */
    void end() {
        System.out.println(about + ": " + made + " answers, " + wrong + " not as due");
        if (wrong != 0) {
            System.exit(1);
        }
    }
}
