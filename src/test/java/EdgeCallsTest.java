import java.util.function.IntSupplier;
import java.util.function.ToIntFunction;

/** Boundary sentences that hold for every call: what it empties, when nothing is sent, how many calls there are. */
public final class EdgeCallsTest extends Edge {
    private static final String EMPTIES = "A call with a path empties text and what is kept";

    public static void main(String[] args) {
        sentence(EMPTIES, () -> eachCall("open", s -> s.x.open(0, 0), 0));
        sentence(EMPTIES, () -> eachCall("open of a directory to write", s -> s.x.open(0, 1), UNSUPPORTED));
        sentence(EMPTIES, () -> eachCall("open with a wrong mode", s -> s.x.open(0, 3), ARGUMENT));
        sentence(EMPTIES, () -> eachCall("create", s -> s.x.create(0, true), UNSUPPORTED));
        sentence(EMPTIES, () -> eachCall("remove", s -> s.x.remove(0), 1));
        sentence(EMPTIES, () -> eachCall("stat", s -> s.x.stat(0), 3));
        sentence(EMPTIES, () -> eachCall("bind", s -> s.x.bind(0, 2), 2));
        sentence(EMPTIES, () -> eachCall("bind with a wrong how", s -> s.x.bind(0, 3), ARGUMENT));
        sentence(EMPTIES, () -> eachCall("mount", s -> s.x.mount(0, 1, 0), 1));
        sentence(EMPTIES, () -> eachCall("mount of a wrong server", s -> s.x.mount(0, 2, 0), ARGUMENT));
        sentence(EMPTIES, () -> eachCall("mount with a wrong how", s -> s.x.mount(0, 1, 7), ARGUMENT));
        sentence(EMPTIES, () -> eachCall("unmount", s -> s.x.unmount(0), UNSUPPORTED));
        sentence(EMPTIES, EdgeCallsTest::noPaths);
        sentence(EMPTIES, EdgeCallsTest::fiveOpen);
        sentence(EMPTIES, EdgeCallsTest::callsWithoutAPath);
        sentence("but not when there is no such process; that is asked first", EdgeCallsTest::noSuchProcess);
        sentence("but not when there is no such process; that is asked first", EdgeCallsTest::processGone);
        sentence("Calls that throw IllegalArgumentException send nothing.", EdgeCallsTest::nothingSent);
        sentence("An object is used for at most 512 calls after it has been made", EdgeCallsTest::manyCalls);
        sentence("An object is used for at most 512 calls after it has been made", EdgeCallsTest::manyMessages);
        Session.end("edges of calls");
    }

    /* With /a typed and kept; afterwards neither is there. */
    private static void eachCall(String what, ToIntFunction<Session> call, int answer) {
        Session s = new Session().directories("/a");
        s.keep("/a").type("/a");
        due(what, Session.answer(() -> call.applyAsInt(s)), answer);
        dueEmpty(s, what);
    }

    private static void dueEmpty(Session s, String what) {
        due(what + ": the text is empty", s.x.type('/'), 1);
        due(what + ": nothing is kept", Session.answer(() -> s.x.bind(0, 0)), ARGUMENT);
    }

    private static void noPaths() {
        for (String text : new String[] {"", "x", "/x", "/a/"}) {
            Session s = new Session();
            s.keep("/");
            due("stat of " + text, s.stat(0, text), ARGUMENT);
            dueEmpty(s, "stat of " + text);
            s.keep("/");
            due("unmount of " + text, s.unmount(0, text), ARGUMENT);
            dueEmpty(s, "unmount of " + text);
            due("bind of " + text, s.bind(0, text, "/", 0), ARGUMENT);
            dueEmpty(s, "bind of " + text);
        }
        Session s = new Session();
        s.keep("/");
        due("no such file", s.stat(0, "/h"), ELEMENT);
        dueEmpty(s, "no such file");
        s.keep("/");
        due("the path / is not removed", s.remove(0, "/"), UNSUPPORTED);
        dueEmpty(s, "the path / is not removed");
        s.keep("/");
        due("the path / is not made", s.file(0, "/"), UNSUPPORTED);
        dueEmpty(s, "the path / is not made");
    }

    private static void fiveOpen() {
        Session s = new Session();
        for (int i = 0; i < 5; i++) {
            s.open(0, "/", 0);
        }
        s.keep("/");
        due("five are open", s.open(0, "/", 0), STATE);
        dueEmpty(s, "five are open");
        s.keep("/");
        due("five are open, create", s.file(0, "/a"), STATE);
        dueEmpty(s, "five are open, create");
    }

    private static void callsWithoutAPath() {
        Session s = new Session().files("/f");
        s.open(0, "/f", 2);
        s.keep("/").type("/");
        due("read", s.read(0, 0), -1);
        due("write", s.write(0, 0, 1), 1);
        due("a refused write", s.write(0, 0, 256), ARGUMENT);
        due("close", s.close(0, 0), 0);
        due("fork", s.fork(0, false), 1);
        due("exit", s.exit(1), 1);
        s.x.wire(0, 0);
        s.x.server(0, 0);
        s.x.process(0, 0);
        due("text and what is kept stay", Session.answer(() -> s.x.bind(0, 2)), 2);
    }

    private static void noSuchProcess() {
        for (int p : new int[] {-1, 1, 2, 3, 4, Integer.MIN_VALUE, Integer.MAX_VALUE}) {
            Session s = new Session();
            s.keep("/").type("/");
            due("open", Session.answer(() -> s.x.open(p, 3)), ARGUMENT);
            due("create", Session.answer(() -> s.x.create(p, true)), ARGUMENT);
            due("remove", Session.answer(() -> s.x.remove(p)), ARGUMENT);
            due("stat", Session.answer(() -> s.x.stat(p)), ARGUMENT);
            due("bind", Session.answer(() -> s.x.bind(p, 0)), ARGUMENT);
            due("mount", Session.answer(() -> s.x.mount(p, 2, 3)), ARGUMENT);
            due("unmount", Session.answer(() -> s.x.unmount(p)), ARGUMENT);
            due("text and what is kept stay", Session.answer(() -> s.x.bind(0, 2)), 2);
        }
    }

    private static void processGone() {
        Session s = new Session();
        s.fork(0, true);
        s.exit(1);
        s.keep("/").type("/");
        due("one that is gone", Session.answer(() -> s.x.stat(1)), ARGUMENT);
        due("the text stays", s.x.type('x'), 2);
        due("and is not asked about", Session.answer(() -> s.x.stat(1)), ARGUMENT);
        due("it is no path", Session.answer(() -> s.x.stat(0)), ARGUMENT);
    }

    private static void nothingSent() {
        Session s = new Session().files("/f");
        s.open(0, "/f", 0);
        s.mark();
        IntSupplier[] calls = {
            () -> s.x.open(1, 0), () -> s.x.create(1, true), () -> s.x.remove(1), () -> s.x.stat(1), () -> s.x.bind(1, 0),
            () -> s.x.mount(1, 0, 0), () -> s.x.unmount(1), () -> s.x.open(0, 0), () -> s.x.create(0, true),
            () -> s.x.remove(0), () -> s.x.stat(0), () -> s.x.bind(0, 0), () -> s.x.mount(0, 0, 0), () -> s.x.unmount(0),
            () -> s.x.read(1, 0), () -> s.x.read(0, 1), () -> s.x.write(1, 0, 0), () -> s.x.write(0, 1, 0),
            () -> s.x.write(0, 0, 256), () -> s.x.close(1, 0), () -> s.x.close(0, 1), () -> s.x.fork(1, false),
            () -> s.x.exit(1), () -> s.x.exit(0),
        };
        for (int i = 0; i < calls.length; i++) {
            due("call " + i, Session.answer(calls[i]), ARGUMENT);
            s.dueSent("call " + i, 0, 0);
        }
        due("a wrong mode", s.open(0, "/f", 3), ARGUMENT);
        due("a wrong how", s.bind(0, "/", "/", 3), ARGUMENT);
        due("a wrong how of mount", s.mount(0, 0, "/", 3), ARGUMENT);
        due("a wrong server", s.mount(0, 2, "/", 0), ARGUMENT);
        due("a wrong text behind a path that is kept", s.bind(0, "/f", "/x", 0), ARGUMENT);
        due("a wrong kept text before a path", s.bind(0, "/x", "/f", 0), ARGUMENT);
        s.dueSent("all", 0, 0);
        s.dueLatest("the latest is still", OPEN, 1);
    }

    private static void manyCalls() {
        Session s = new Session();
        for (int i = 1; i <= 255; i++) {
            due("stat " + i, s.stat(0, "/"), 1);
        }
        due("messages", s.x.server(0, 0), 256);
        due("the last call", s.x.wire(0, 4), STAT);
        due("all are used", s.x.callsLeft(), 0);
    }

    /* The dearest walks: every one of twelve names by the third member of a place. */
    private static void manyMessages() {
        Session s = new Session().directories("/a", "/b");
        s.bind(0, "/b", "/a", 0);
        s.bind(0, "/b", "/a", 2);
        s.mount(0, 0, "/a", 2);
        int rounds = 16;
        s.mark();
        for (int i = 0; i < rounds; i++) {
            due("round and round", s.stat(0, "/a/a/a/a/a/a/a/a/a/a/a/a"), 3);
        }
        s.dueSent("a walk, eleven times three walks and a clunk, stat, clunk", rounds * 47, 0);
        s.dueHandles("nothing is left behind", 4, 1);
    }
}
