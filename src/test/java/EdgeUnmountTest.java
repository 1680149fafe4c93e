/** Boundary sentences of promise 13: unmount. */
public final class EdgeUnmountTest extends Edge {
    public static void main(String[] args) {
        sentence("The place of the text's path goes: its members are clunked, in order, and what was walked to.", EdgeUnmountTest::goes);
        sentence("The place of the text's path goes: its members are clunked, in order, and what was walked to.", EdgeUnmountTest::othersStay);
        sentence("How many places the name space has then.", EdgeUnmountTest::counts);
        sentence("Throws as told for walking; UnsupportedOperationException when it is no place.", EdgeUnmountTest::refused);
        sentence("Throws as told for walking; UnsupportedOperationException when it is no place.", EdgeUnmountTest::wrong);
        Session.end("edges of unmount");
    }

    private static void goes() {
        Session s = new Session().directories("/a");
        s.mount(0, 1, "/a", 0);
        s.mark();
        due("of one member", s.unmount(0, "/a"), 0);
        s.dueSent("walk, clunk, and clunk", 2, 1);
        s.dueLatest("what was walked to is the last", CLUNK, 1);
        s.mount(0, 1, "/a", 1);
        s.mount(0, 1, "/a", 2);
        s.mark();
        due("of three members", s.unmount(0, "/a"), 0);
        s.dueSent("walk, clunk, clunk, and two clunks", 3, 2);
        s.dueHandles("nothing is left behind", 1, 1);
        s.open(0, "/", 0);
        s.mount(0, 1, "/", 2);
        s.mount(0, 1, "/", 2);
        s.mark();
        due("at the beginning, which is not clunked", s.unmount(0, "/"), 0);
        s.dueSent("clunk, and two clunks", 1, 2);
        s.dueLatest("the last of the members 2, and 1 and 2 of server 1", CLUNK, 2);
        s.dueBytes("of server 1", 1, 7, 0, 0, 0, 121, 1, 0);
        s.dueHandles("the open file is left", 2, 1);
        s.mount(0, 1, "/", 1);
        due("the other way round", s.unmount(0, "/"), 0);
        s.dueLatest("the beginning's own handle is the last", CLUNK, 2);
    }

    private static void othersStay() {
        Session s = new Session().directories("/a", "/b", "/c").files("/c/h");
        for (String path : new String[] {"/a", "/b", "/c"}) {
            s.bind(0, "/c", path, 0);
        }
        due("the second of three", s.unmount(0, "/b"), 2);
        due("the first is as it was", s.stat(0, "/a/h"), 8);
        due("the third is as it was", s.stat(0, "/c/h"), 8);
        due("the second is bare", s.stat(0, "/b/h"), ELEMENT);
        due("made anew", s.bind(0, "/c", "/b", 1), 2);
        due("with its own two members", s.x.process(0, 3), 4);
        due("the first of three", s.unmount(0, "/a"), 2);
        due("the last of them", s.unmount(0, "/b"), 1);
        due("the one that is left is as it was", s.stat(0, "/c/h"), 8);
        s.fork(0, false);
        due("a place of one name space", s.unmount(0, "/c"), 0);
        due("is not that of its copy", s.unmount(1, "/c"), 0);
    }

    private static void counts() {
        Session s = new Session().directories("/a", "/b", "/c", "/d");
        for (char c = 'a'; c <= 'd'; c++) {
            s.mount(0, 1, "/" + c, 0);
        }
        int left = 4;
        for (char c : new char[] {'b', 'd', 'a', 'c'}) {
            left--;
            due("of four", s.unmount(0, "/" + c), left);
            due("as asked", s.x.process(0, 2), left);
        }
    }

    private static void refused() {
        Session s = new Session().directories("/a").files("/f");
        s.mark();
        due("no place", s.unmount(0, "/a"), UNSUPPORTED);
        s.dueSent("walk, clunk", 2, 0);
        due("a file", s.unmount(0, "/f"), UNSUPPORTED);
        due("the beginning", s.unmount(0, "/"), UNSUPPORTED);
        due("no such file", s.unmount(0, "/h"), ELEMENT);
        due("below a file", s.unmount(0, "/f/h"), UNSUPPORTED);
        s.bind(0, "/a", "/", 2);
        due("a member is no place", s.unmount(0, "/a"), UNSUPPORTED);
        due("the place", s.unmount(0, "/"), 0);
        due("not twice", s.unmount(0, "/"), UNSUPPORTED);
        s.dueHandles("nothing is left behind", 1, 1);
    }

    private static void wrong() {
        Session s = new Session();
        s.mount(0, 1, "/", 0);
        for (int p : NO_PROCESSES) {
            due("process " + p, s.unmount(p, ""), ARGUMENT);
        }
        due("a process that is not there", s.unmount(1, ""), ARGUMENT);
        due("no text", s.unmount(0, ""), ARGUMENT);
        due("no path", s.unmount(0, "//"), ARGUMENT);
        due("the place is there", s.x.process(0, 2), 1);
    }
}
