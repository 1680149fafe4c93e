/** One object under test that keeps its test to the 512 calls which the document promises something about. */
final class Counted {
    static final int MOST_CALLS = 512;

    private final NameSpaces x = new NameSpaces();
    private int calls;

    private NameSpaces next() {
        calls++;
        if (calls > MOST_CALLS) {
            throw new AssertionError("the test makes more than " + MOST_CALLS + " calls on an object");
        }
        return x;
    }

    int callsLeft() {
        return MOST_CALLS - calls;
    }

    int type(char c) {
        return next().type(c);
    }

    int keep() {
        return next().keep();
    }

    int open(int p, int mode) {
        return next().open(p, mode);
    }

    int create(int p, boolean directory) {
        return next().create(p, directory);
    }

    int read(int p, int file) {
        return next().read(p, file);
    }

    int write(int p, int file, int b) {
        return next().write(p, file, b);
    }

    int close(int p, int file) {
        return next().close(p, file);
    }

    int remove(int p) {
        return next().remove(p);
    }

    int stat(int p) {
        return next().stat(p);
    }

    int bind(int p, int how) {
        return next().bind(p, how);
    }

    int mount(int p, int server, int how) {
        return next().mount(p, server, how);
    }

    int unmount(int p) {
        return next().unmount(p);
    }

    int fork(int p, boolean share) {
        return next().fork(p, share);
    }

    int exit(int p) {
        return next().exit(p);
    }

    int wire(int which, int i) {
        return next().wire(which, i);
    }

    int server(int s, int what) {
        return next().server(s, what);
    }

    int process(int p, int what) {
        return next().process(p, what);
    }
}
