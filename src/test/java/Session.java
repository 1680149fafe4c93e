import java.util.ArrayList;
import java.util.List;
import java.util.NoSuchElementException;
import java.util.function.IntSupplier;

/** One object under test; exceptions become answers, so that a test is a row of due answers. */
final class Session {
    static final int ILLEGAL_ARGUMENT = -1001;
    static final int ILLEGAL_STATE = -1002;
    static final int NO_SUCH_ELEMENT = -1003;
    static final int UNSUPPORTED = -1004;

    private static int wrong = 0;
    private static int asked = 0;
    private static String words = "";

    final Counted x = new Counted();
    private final int[] marked = new int[2];

    static int answer(IntSupplier call) {
        try {
            return call.getAsInt();
        } catch (IllegalArgumentException e) {
            return exactly(e, IllegalArgumentException.class, ILLEGAL_ARGUMENT);
        } catch (IllegalStateException e) {
            return exactly(e, IllegalStateException.class, ILLEGAL_STATE);
        } catch (NoSuchElementException e) {
            return exactly(e, NoSuchElementException.class, NO_SUCH_ELEMENT);
        } catch (UnsupportedOperationException e) {
            return exactly(e, UnsupportedOperationException.class, UNSUPPORTED);
        }
    }

    private static int exactly(RuntimeException e, Class<?> due, int answer) {
        if (e.getClass() != due) {
            throw e;
        }
        return answer;
    }

    static void due(String what, int got, int want) {
        asked++;
        if (got != want) {
            wrong++;
            System.out.println(words + what + " answered " + name(got) + ", due is " + name(want));
        }
    }

    private static String name(int answer) {
        switch (answer) {
            case ILLEGAL_ARGUMENT: return "throws.IllegalArgumentException";
            case ILLEGAL_STATE: return "throws.IllegalStateException";
            case NO_SUCH_ELEMENT: return "throws.NoSuchElementException";
            case UNSUPPORTED: return "throws.UnsupportedOperationException";
            default: return Integer.toString(answer);
        }
    }

    /** A test of one sentence of the document, whose words stand before what it finds wrong. */
    static void sentence(String said, Runnable test) {
        words = "'" + said + "': ";
        test.run();
        words = "";
    }

    static void end(String title) {
        System.out.println(title + ": " + (asked - wrong) + " of " + asked + " answers are as due");
        if (wrong != 0 || asked == 0) {
            System.exit(1);
        }
    }

    Session type(String text) {
        for (char c : text.toCharArray()) {
            x.type(c);
        }
        return this;
    }

    Session keep(String text) {
        type(text);
        x.keep();
        return this;
    }

    int open(int p, String path, int mode) {
        type(path);
        return answer(() -> x.open(p, mode));
    }

    int file(int p, String path) {
        type(path);
        return answer(() -> x.create(p, false));
    }

    int directory(int p, String path) {
        type(path);
        return answer(() -> x.create(p, true));
    }

    /** Makes directories and closes them again. */
    Session directories(String... paths) {
        for (String path : paths) {
            close(0, directory(0, path));
        }
        return this;
    }

    /** Makes files and closes them again. */
    Session files(String... paths) {
        for (String path : paths) {
            close(0, file(0, path));
        }
        return this;
    }

    int read(int p, int file) {
        return answer(() -> x.read(p, file));
    }

    int write(int p, int file, int b) {
        return answer(() -> x.write(p, file, b));
    }

    int close(int p, int file) {
        return answer(() -> x.close(p, file));
    }

    int remove(int p, String path) {
        type(path);
        return answer(() -> x.remove(p));
    }

    int stat(int p, String path) {
        type(path);
        return answer(() -> x.stat(p));
    }

    int bind(int p, String from, String at, int how) {
        keep(from);
        type(at);
        return answer(() -> x.bind(p, how));
    }

    int mount(int p, int server, String at, int how) {
        type(at);
        return answer(() -> x.mount(p, server, how));
    }

    int unmount(int p, String at) {
        type(at);
        return answer(() -> x.unmount(p));
    }

    int fork(int p, boolean share) {
        return answer(() -> x.fork(p, share));
    }

    int exit(int p) {
        return answer(() -> x.exit(p));
    }

    /** Counts the messages from here on. */
    void mark() {
        marked[0] = messages(0);
        marked[1] = messages(1);
    }

    /** How many messages each server has had since the mark. */
    void dueSent(String what, int first, int second) {
        due(what + ": messages to server 0", messages(0) - marked[0], first);
        due(what + ": messages to server 1", messages(1) - marked[1], second);
    }

    /** The latest message, by its type and its handle. */
    void dueLatest(String what, int type, int handle) {
        due(what + ": type of the latest message", x.wire(0, 4), type);
        due(what + ": handle of the latest message", x.wire(0, 7), handle);
    }

    void dueError(String what, char letter) {
        due(what + ": type of the reply", x.wire(1, 4), 107);
        due(what + ": letter of the error", x.wire(1, 9), letter);
    }

    void dueHandles(String what, int first, int second) {
        due(what + ": handles of server 0", handles(0), first);
        due(what + ": handles of server 1", handles(1), second);
    }

    int messages(int s) {
        return x.server(s, 0);
    }

    int handles(int s) {
        return x.server(s, 1);
    }

    private List<Integer> bytes(int which) {
        List<Integer> bytes = new ArrayList<>();
        int length = x.wire(which, -1);
        for (int i = 0; i < length; i++) {
            bytes.add(x.wire(which, i));
        }
        return bytes;
    }

    /** Asks for all bytes of the latest message (0) or reply (1). */
    void dueBytes(String what, int which, int... want) {
        List<Integer> due = new ArrayList<>();
        for (int b : want) {
            due.add(b);
        }
        List<Integer> got = bytes(which);
        if (!got.equals(due)) {
            System.out.println(words + what + ": bytes " + got + ", due are " + due);
        }
        due(what + ": the bytes are as due", got.equals(due) ? 1 : 0, 1);
    }
}
