/** Boundary sentences of 'Terms' about processes and about opening. */
public final class EdgeOpeningTest extends Edge {
    public static void main(String[] args) {
        sentence("PROCESSES are 0 .. 3; 0 is there at first, with a name space without places.", EdgeOpeningTest::processes);
        sentence("Each has at most five files OPEN, numbered 0 .. 4", EdgeOpeningTest::fiveFiles);
        sentence("If the file is a place: each member gets a WALK without a name to a new handle, in order, and then what was walked to is clunked", EdgeOpeningTest::place);
        sentence("If the file is a place: each member gets a WALK without a name to a new handle, in order, and then what was walked to is clunked", EdgeOpeningTest::beginningAsPlace);
        sentence("otherwise the handle is what was walked to (for the beginning a new one, by WALK without a name)", EdgeOpeningTest::noPlace);
        sentence("those with an error are clunked right then", EdgeOpeningTest::someLeft);
        sentence("If none is left, thrown is UnsupportedOperationException if the last error was p, else NoSuchElementException.", EdgeOpeningTest::noneLeft);
        Session.end("edges of opening");
    }

    private static void processes() {
        Session s = new Session();
        for (int p = 0; p <= 3; p++) {
            due("there at first", s.x.process(p, 0), p == 0 ? 1 : 0);
            due("places", s.x.process(p, 2), 0);
        }
        for (int p = 1; p <= 3; p++) {
            due("the next", s.fork(0, true), p);
        }
        due("no fifth", s.fork(0, true), STATE);
        for (int p : NO_PROCESSES) {
            due("is none", s.x.process(p, 0), -1);
            due("opens nothing", s.open(p, "", 0), ARGUMENT);
        }
    }

    private static void fiveFiles() {
        Session s = new Session().files("/a");
        s.fork(0, true);
        for (int p = 0; p <= 1; p++) {
            for (int i = 0; i < 5; i++) {
                due("number", s.open(p, "/a", 0), i);
            }
            due("a sixth", s.open(p, "/a", 0), STATE);
            due("a sixth, made", s.file(p, "/b"), STATE);
            due("five", s.x.process(p, 1), 5);
        }
        due("number 4 is read", s.read(1, 4), -1);
        due("number 5 is none", s.read(1, 5), ARGUMENT);
        due("number -1 is none", s.read(1, -1), ARGUMENT);
        s.close(1, 3);
        due("the one that is free, made", s.file(1, "/b"), 3);
        due("a sixth", s.open(1, "/a", 0), STATE);
        s.close(1, 4);
        due("the last, opened", s.open(1, "/a", 0), 4);
    }

    private static void place() {
        Session s = new Session().directories("/a");
        s.mount(0, 1, "/a", 0);
        s.mark();
        due("of one member", s.open(0, "/a", 0), 0);
        s.dueSent("walk, clunk, and walk, open", 2, 2);
        s.dueLatest("the member's copy", OPEN, 2);
        s.dueHandles("the member and its copy", 1, 3);
        s.mount(0, 1, "/a", 2);
        s.mount(0, 0, "/a", 1);
        s.mark();
        due("of three members", s.open(0, "/a", 0), 1);
        s.dueSent("walk, walk, clunk, open, and two walks, two opens", 4, 4);
        s.dueLatest("the last of them", OPEN, 5);
        s.dueHandles("members and copies", 3, 6);
        due("the first copy", s.read(0, 1), 'a');
        s.dueLatest("was walked to before what was walked to first was clunked", READ, 3);
    }

    private static void beginningAsPlace() {
        Session s = new Session().directories("/a");
        s.mount(0, 1, "/", 6);
        s.mark();
        due("open", s.open(0, "/", 0), 0);
        s.dueSent("walk, open, and walk, open; the beginning is not clunked", 2, 2);
        s.dueHandles("the beginning, members and copies", 3, 3);
        due("its own first", s.read(0, 0), 'a');
        due("no more in both", s.read(0, 0), -1);
        s.files("/b");
        due("the other is behind it", s.stat(0, "/b"), 4);
    }

    private static void noPlace() {
        Session s = new Session().directories("/a").files("/a/b");
        s.mark();
        due("a file", s.open(0, "/a/b", 2), 0);
        s.dueSent("walk, walk, clunk, open", 4, 0);
        s.dueLatest("what was walked to", OPEN, 2);
        s.mark();
        due("the beginning", s.open(0, "/", 0), 1);
        s.dueSent("walk, open", 2, 0);
        s.dueLatest("a new one", OPEN, 1);
        s.mark();
        due("the beginning to write", s.open(0, "/", 2), UNSUPPORTED);
        s.dueSent("walk, open, clunk", 3, 0);
        s.dueLatest("the new one is clunked", CLUNK, 3);
        s.dueHandles("two files and the beginning", 3, 1);
    }

    private static void someLeft() {
        Session s = new Session().directories("/a", "/b", "/c", "/d");
        s.files("/d/h");
        s.bind(0, "/b", "/a", 0);
        s.bind(0, "/c", "/a", 2);
        s.bind(0, "/d", "/a", 2);
        s.remove(0, "/b");
        s.remove(0, "/c");
        s.mark();
        due("the third is left", s.open(0, "/a", 0), 0);
        s.dueSent("walk, three walks, clunk, open, clunk, open, clunk, open", 10, 0);
        s.dueLatest("the third one's copy", OPEN, 7);
        s.dueHandles("three members, one copy", 5, 1);
        due("it is read", s.read(0, 0), 'h');
        s.dueLatest("at once", READ, 7);
        due("no more", s.read(0, 0), -1);
        s.mark();
        due("closed", s.close(0, 0), 0);
        s.dueSent("one clunk", 1, 0);
        Session t = new Session().directories("/a", "/b").files("/a/h");
        t.bind(0, "/b", "/a", 2);
        t.remove(0, "/b");
        t.mark();
        due("the first is left", t.open(0, "/a", 0), 0);
        t.dueSent("walk, two walks, clunk, open, open, clunk", 7, 0);
        t.dueLatest("the second one's copy", CLUNK, 5);
        due("it is read", t.read(0, 0), 'h');
        due("and has no next", t.read(0, 0), -1);
        t.dueLatest("itself again", READ, 4);
    }

    private static void noneLeft() {
        Session s = new Session().directories("/a", "/b", "/c");
        due("p alone", s.open(0, "/a", 1), UNSUPPORTED);
        s.bind(0, "/b", "/a", 0);
        due("p of the one member", s.open(0, "/a", 2), UNSUPPORTED);
        s.remove(0, "/b");
        due("n of the one member", s.open(0, "/a", 0), ELEMENT);
        s.bind(0, "/c", "/a", 2);
        due("n, then p", s.open(0, "/a", 1), UNSUPPORTED);
        s.bind(0, "/c", "/a", 1);
        due("p, n, then p", s.open(0, "/a", 1), UNSUPPORTED);
        s.remove(0, "/c");
        due("three times n", s.open(0, "/a", 1), ELEMENT);
        due("three times n, to read", s.open(0, "/a", 0), ELEMENT);
        s.dueHandles("three members", 4, 1);
        due("nothing is open", s.x.process(0, 1), 0);
        Session t = new Session().directories("/a", "/b");
        t.bind(0, "/b", "/a", 2);
        t.remove(0, "/b");
        due("p, then n", t.open(0, "/a", 1), ELEMENT);
        due("the number is still free", t.open(0, "/a", 0), 0);
    }
}
