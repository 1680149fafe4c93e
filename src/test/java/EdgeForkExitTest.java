/** Boundary sentences of promises 14 and 15: fork and exit. */
public final class EdgeForkExitTest extends Edge {
    public static void main(String[] args) {
        sentence("A new process, the least that is not there", EdgeForkExitTest::least);
        sentence("with nothing open", EdgeForkExitTest::nothingOpen);
        sentence("with the name space of p (share) or a copy of it", EdgeForkExitTest::shareOrCopy);
        sentence("each member, place by place, a new handle by WALK without a name", EdgeForkExitTest::copies);
        sentence("each member, place by place, a new handle by WALK without a name", EdgeForkExitTest::orderOfPlaces);
        sentence("IllegalStateException when there are four", EdgeForkExitTest::four);
        sentence("Throws IllegalArgumentException when there is no such process", EdgeForkExitTest::forkWrong);
        sentence("its files are closed, the lowest first", EdgeForkExitTest::filesClosed);
        sentence("if nobody else has its name space, all members of its places are clunked, in order", EdgeForkExitTest::membersClunked);
        sentence("if nobody else has its name space, all members of its places are clunked, in order", EdgeForkExitTest::membersInOrder);
        sentence("if nobody else has its name space, all members of its places are clunked, in order", EdgeForkExitTest::somebodyElse);
        sentence("How many processes there are.", EdgeForkExitTest::counts);
        sentence("Throws IllegalArgumentException when there is no such process, or p is 0.", EdgeForkExitTest::exitWrong);
        Session.end("edges of fork and exit");
    }

    private static void least() {
        Session s = new Session();
        for (int p = 1; p <= 3; p++) {
            due("one after the other", s.fork(p - 1, p % 2 == 0), p);
        }
        s.exit(3);
        s.exit(1);
        due("the least of two", s.fork(2, false), 1);
        due("then the other", s.fork(2, true), 3);
    }

    private static void nothingOpen() {
        Session s = new Session();
        for (int i = 0; i < 5; i++) {
            s.open(0, "/", 0);
        }
        due("of one with five open", s.fork(0, true), 1);
        due("nothing", s.x.process(1, 1), 0);
        due("not the other one's", s.read(1, 0), ARGUMENT);
        for (int i = 0; i < 5; i++) {
            due("five of its own", s.open(1, "/", 0), i);
        }
        s.exit(1);
        due("again", s.fork(0, false), 1);
        due("nothing of the one that is gone", s.x.process(1, 1), 0);
        due("not its number", s.read(1, 0), ARGUMENT);
        due("the least number", s.open(1, "/", 0), 0);
    }

    private static void shareOrCopy() {
        Session s = new Session().directories("/a", "/b");
        due("shared, without places", s.fork(0, true), 1);
        due("copied, without places", s.fork(0, false), 2);
        s.mount(1, 1, "/a", 4);
        due("what one that shares does, both see", s.x.process(0, 2), 1);
        due("the copy does not", s.x.process(2, 2), 0);
        s.mount(2, 1, "/b", 0);
        due("what the copy does, it sees alone", s.x.process(0, 2), 1);
        due("a copy of the copy", s.fork(2, false), 3);
        due("has its place", s.unmount(3, "/b"), 0);
        due("which stays in the copy", s.x.process(2, 2), 1);
        due("a place of the shared one", s.unmount(0, "/a"), 0);
        due("goes from both", s.x.process(1, 2), 0);
    }

    private static void copies() {
        Session s = new Session().directories("/a", "/b").files("/b/h");
        s.mark();
        due("without places", s.fork(0, false), 1);
        s.dueSent("nothing", 0, 0);
        s.bind(0, "/b", "/a", 4);
        s.mount(0, 1, "/a", 2);
        s.mark();
        due("shared", s.fork(0, true), 2);
        s.dueSent("nothing", 0, 0);
        due("of two members", s.fork(0, false), 3);
        s.dueSent("a walk each", 1, 1);
        s.dueHandles("twice the members", 3, 3);
        due("places", s.x.process(3, 2), 1);
        due("members", s.x.process(3, 3), 2);
        due("the copy's members go", s.unmount(3, "/a"), 0);
        s.dueHandles("and are not the others'", 2, 2);
        due("which are as they were", s.stat(0, "/a/h"), 6);
        s.exit(3);
        s.fork(0, false);
        due("where files may be made is copied", s.file(3, "/a/g"), 0);
        due("it is in /b", s.stat(3, "/b/g"), 8);
        s.mount(0, 1, "/a", 0);
        s.exit(1);
        s.fork(0, false);
        due("where none may be made too", s.file(1, "/a/f"), UNSUPPORTED);
    }

    /* The handles tell in which order the members were copied; the last is the latest message. */
    private static void orderOfPlaces() {
        Session s = new Session().directories("/a", "/b");
        s.mount(0, 0, "/b", 1);
        s.mount(0, 0, "/a", 0);
        s.fork(0, false);
        s.dueBytes("the last member of the last place", 0, 17, 0, 0, 0, 110, 1, 0, 3, 0, 0, 0, 6, 0, 0, 0, 0, 0);
        s.exit(1);
        s.unmount(0, "/b");
        s.mount(0, 0, "/b", 0);
        s.fork(0, false);
        s.dueBytes("a place made again is the last", 0, 17, 0, 0, 0, 110, 1, 0, 1, 0, 0, 0, 4, 0, 0, 0, 0, 0);
        s.mount(0, 0, "/a", 2);
        s.fork(0, false);
        s.dueBytes("a place that gets a member stays where it is", 0, 17, 0, 0, 0, 110, 1, 0, 1, 0, 0, 0, 8, 0, 0, 0, 0, 0);
        s.mount(0, 0, "/a", 0);
        s.fork(0, false);
        s.dueBytes("a place that gets another list too", 0, 17, 0, 0, 0, 110, 1, 0, 1, 0, 0, 0, 5, 0, 0, 0, 0, 0);
        Session t = new Session().directories("/a", "/b", "/c");
        for (String path : new String[] {"/a", "/b", "/c"}) {
            t.mount(0, 1, path, 0);
        }
        t.unmount(0, "/a");
        t.fork(0, false);
        t.dueBytes("when the first of three went, the third is still the last", 0, 17, 0, 0, 0, 110, 1, 0, 3, 0, 0, 0, 4, 0, 0, 0, 0, 0);
    }

    private static void four() {
        Session s = new Session().directories("/a");
        s.mount(0, 1, "/a", 0);
        for (int p = 1; p <= 3; p++) {
            due("one more", s.fork(0, false), p);
        }
        s.mark();
        for (int p = 0; p <= 3; p++) {
            due("a fifth, copied", s.fork(p, false), STATE);
            due("a fifth, shared", s.fork(p, true), STATE);
        }
        due("no such process comes before", s.fork(4, true), ARGUMENT);
        s.dueSent("nothing", 0, 0);
        s.exit(2);
        due("room for one", s.fork(3, false), 2);
        due("and no more", s.fork(3, false), STATE);
    }

    private static void forkWrong() {
        Session s = new Session();
        for (int p : NO_PROCESSES) {
            due("process " + p, s.fork(p, true), ARGUMENT);
            due("process " + p, s.fork(p, false), ARGUMENT);
        }
        for (int p = 1; p <= 3; p++) {
            due("process " + p + " is not there", s.fork(p, true), ARGUMENT);
        }
        s.fork(0, true);
        s.exit(1);
        due("one that is gone", s.fork(1, false), ARGUMENT);
        due("process 0 alone is there", s.x.process(1, 0) + s.x.process(2, 0) + s.x.process(3, 0), 0);
    }

    private static void filesClosed() {
        Session s = new Session().directories("/a");
        s.mount(0, 1, "/a", 2);
        s.fork(0, true);
        for (int i = 0; i < 5; i++) {
            s.open(1, i == 0 ? "/a" : "/", 0);
        }
        s.close(1, 2);
        s.open(0, "/", 0);
        s.mark();
        due("four files of five handles", s.exit(1), 1);
        s.dueSent("four clunks, and one", 4, 1);
        s.dueLatest("the highest number is the last", CLUNK, 6);
        due("the other process's stays open", s.read(0, 0), 'a');
        Session t = new Session();
        t.mount(0, 1, "/", 0);
        t.fork(0, true);
        t.open(1, "/", 0);
        t.mark();
        due("handles of server 1", t.exit(1), 1);
        t.dueSent("one clunk", 0, 1);
    }

    private static void membersClunked() {
        Session s = new Session().directories("/a", "/b");
        s.fork(0, false);
        s.mount(1, 1, "/a", 2);
        s.mount(1, 1, "/b", 0);
        s.open(1, "/a", 0);
        s.mark();
        due("the only one with its name space", s.exit(1), 1);
        s.dueSent("a file's handle and a member, twice", 2, 3);
        s.dueLatest("the last member of the last place is the last", CLUNK, 2);
        s.dueHandles("nothing is left behind", 1, 1);
        s.mark();
        s.fork(0, false);
        due("the next has none of its places", s.x.process(1, 2), 0);
        due("it goes without a message", s.exit(1), 1);
        s.dueSent("nothing", 0, 0);
    }

    private static void membersInOrder() {
        Session s = new Session().directories("/a");
        s.fork(0, false);
        s.mount(1, 0, "/a", 0);
        s.mount(1, 1, "/", 0);
        s.mark();
        due("two places of two servers", s.exit(1), 1);
        s.dueSent("a clunk each", 1, 1);
        s.dueBytes("that of server 1 is the last", 0, 11, 0, 0, 0, 120, 1, 0, 1, 0, 0, 0);
        s.fork(0, false);
        for (int how : new int[] {0, 2, 2}) {
            s.mount(1, 0, "/a", how);
        }
        s.open(1, "/", 0);
        due("first the file, then the members 1, 2 and 3", s.exit(1), 1);
        s.dueLatest("the third is the last", CLUNK, 3);
        s.fork(0, false);
        for (int how : new int[] {0, 1, 1}) {
            s.mount(1, 0, "/a", how);
        }
        due("the members 3, 2 and 1", s.exit(1), 1);
        s.dueLatest("the third is the last", CLUNK, 1);
        s.fork(0, false);
        s.mount(1, 0, "/a", 0);
        s.mount(1, 0, "/", 0);
        due("the places /a and /", s.exit(1), 1);
        s.dueLatest("the second one's is the last", CLUNK, 2);
    }

    private static void somebodyElse() {
        Session s = new Session();
        s.fork(0, false);
        s.mount(1, 1, "/", 4);
        s.fork(1, true);
        s.fork(2, true);
        s.mark();
        due("the first of three", s.exit(1), 3);
        due("the second of three", s.exit(3), 2);
        s.dueSent("nothing", 0, 0);
        due("the third still has it", s.x.process(2, 3), 1);
        due("and its member", s.file(2, "/a"), 0);
        s.mark();
        due("the last of three", s.exit(2), 1);
        s.dueSent("a clunk of the file, a clunk of the member", 0, 2);
        s.mount(0, 1, "/", 4);
        s.fork(0, true);
        s.mark();
        due("process 0 has it too", s.exit(1), 1);
        s.dueSent("nothing", 0, 0);
        due("and keeps it", s.stat(0, "/a"), 102);
    }

    private static void counts() {
        Session s = new Session();
        for (int p = 1; p <= 3; p++) {
            s.fork(0, p == 2);
        }
        due("of four", s.exit(2), 3);
        due("of three", s.exit(3), 2);
        due("of two", s.exit(1), 1);
        s.fork(0, true);
        due("of two again", s.exit(1), 1);
    }

    private static void exitWrong() {
        Session s = new Session();
        s.open(0, "/", 0);
        s.mark();
        due("process 0", s.exit(0), ARGUMENT);
        for (int p : NO_PROCESSES) {
            due("process " + p, s.exit(p), ARGUMENT);
        }
        for (int p = 1; p <= 3; p++) {
            due("process " + p + " is not there", s.exit(p), ARGUMENT);
        }
        s.dueSent("nothing", 0, 0);
        due("process 0 is there", s.x.process(0, 0), 1);
        due("with its file", s.x.process(0, 1), 1);
        s.fork(0, true);
        due("with another one there", s.exit(0), ARGUMENT);
        due("the other one", s.exit(1), 1);
        due("not twice", s.exit(1), ARGUMENT);
    }
}
