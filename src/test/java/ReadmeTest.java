/** The example of README.md, call by call. */
public final class ReadmeTest {
    public static void main(String[] args) {
        Checks checks = new Checks("the readme");
        NodeTableFiles files = new NodeTableFiles();
        checks.due("create(0)", files.create(0), 0);
        checks.due("write(0, 0, 7)", files.write(0, 0, 7), 1);
        checks.due("fsync(0)", files.fsync(0), 1);
        checks.due("write(0, 0, 8)", files.write(0, 0, 8), 1);
        checks.due("unsafe()", files.unsafe(), 1);
        checks.due("crash()", files.crash(), 1);
        checks.due("read(0, 0)", files.read(0, 0), 7);
        checks.due("remove(5)", files.remove(5), NodeTableFiles.ABSENT);
        checks.due("write(0, 4, 1)", files.write(0, 4, 1), NodeTableFiles.BAD_ARG);
        checks.end();
    }
}
