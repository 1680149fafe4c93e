/** Boundary sentences of promises 9 and 10: remove and stat. */
public final class EdgeRemoveStatTest extends Edge {
    public static void main(String[] args) {
        sentence("it is walked, and the handle gets REMOVE. The file's serial.", EdgeRemoveStatTest::removed);
        sentence("Throws as told for walking; UnsupportedOperationException for an error p", EdgeRemoveStatTest::removeRefused);
        sentence("and for the path / (nothing is sent)", EdgeRemoveStatTest::removeRoot);
        sentence("Process p removes the file of the text's path", EdgeRemoveStatTest::removeWrong);
        sentence("it is walked, the handle gets STAT, and is clunked", EdgeRemoveStatTest::statMessages);
        sentence("100 * server + 2 * serial, and 1 for a directory", EdgeRemoveStatTest::statNumbers);
        sentence("What process p finds at the text's path", EdgeRemoveStatTest::statWrong);
        Session.end("edges of remove and stat");
    }

    private static void removed() {
        Session s = new Session().directories("/a", "/a/b").files("/a/b/c");
        s.mark();
        due("a file", s.remove(0, "/a/b/c"), 3);
        s.dueSent("walk, walk, clunk, walk, clunk, remove", 6, 0);
        s.mark();
        due("an empty directory", s.remove(0, "/a/b"), 2);
        s.dueSent("walk, walk, clunk, remove", 4, 0);
        due("what is in it went with its files", s.remove(0, "/a"), 1);
        due("not twice", s.remove(0, "/a"), ELEMENT);
        s.dueHandles("nothing is left behind", 1, 1);
        Session t = new Session();
        t.mount(0, 1, "/", 4);
        t.files("/h");
        due("of server 1: its serial alone", t.remove(0, "/h"), 1);
        due("the files of server 1", t.x.server(1, 2), 1);
    }

    private static void removeRefused() {
        Session s = new Session().directories("/a").files("/a/b");
        due("a directory with a file in it", s.remove(0, "/a"), UNSUPPORTED);
        due("it is still there", s.stat(0, "/a"), 3);
        due("no such file", s.remove(0, "/a/c"), ELEMENT);
        due("below nothing", s.remove(0, "/c/c"), ELEMENT);
        due("below a file", s.remove(0, "/a/b/c"), UNSUPPORTED);
        s.dueHandles("nothing is left behind", 1, 1);
        due("none is gone", s.x.server(0, 2), 3);
    }

    private static void removeRoot() {
        Session s = new Session().directories("/a");
        s.mark();
        for (String path : new String[] {"/", "/..", "/a/..", "/h/../.."}) {
            due("at " + path, s.remove(0, path), UNSUPPORTED);
        }
        s.dueSent("nothing", 0, 0);
        s.mount(0, 1, "/", 4);
        s.mark();
        due("when / is a place", s.remove(0, "/"), UNSUPPORTED);
        s.dueSent("nothing", 0, 0);
    }

    private static void removeWrong() {
        Session s = new Session().files("/a");
        for (int p : NO_PROCESSES) {
            due("process " + p, s.remove(p, ""), ARGUMENT);
        }
        due("a process that is not there", s.remove(1, ""), ARGUMENT);
        due("no text", s.remove(0, ""), ARGUMENT);
        due("no path", s.remove(0, "/a/"), ARGUMENT);
        due("the file is there", s.stat(0, "/a"), 2);
    }

    private static void statMessages() {
        Session s = new Session().directories("/a").files("/a/b");
        s.mark();
        due("the beginning is not clunked", s.stat(0, "/"), 1);
        s.dueSent("stat", 1, 0);
        s.mark();
        due("two names", s.stat(0, "/a/b"), 4);
        s.dueSent("walk, walk, clunk, stat, clunk", 5, 0);
        s.dueLatest("clunk", CLUNK, 2);
        s.mount(0, 1, "/a", 0);
        s.mark();
        due("a place: its own file", s.stat(0, "/a"), 3);
        s.dueSent("walk, stat, clunk", 3, 0);
        s.dueHandles("the member stays", 1, 2);
    }

    private static void statNumbers() {
        Session s = new Session().files("/a").directories("/b");
        due("the root", s.stat(0, "/"), 1);
        due("a file", s.stat(0, "/a"), 2);
        due("a directory", s.stat(0, "/b"), 5);
        s.mount(0, 1, "/b", 4);
        s.files("/b/a").directories("/b/b");
        due("a file of server 1", s.stat(0, "/b/a"), 102);
        due("a directory of server 1", s.stat(0, "/b/b"), 105);
        s.file(0, "/c");
        for (int i = 0; i < 8; i++) {
            s.write(0, 0, i);
        }
        due("bytes do not count", s.stat(0, "/c"), 6);
    }

    private static void statWrong() {
        Session s = new Session().files("/a");
        for (int p : NO_PROCESSES) {
            due("process " + p, s.stat(p, ""), ARGUMENT);
        }
        due("a process that is not there", s.stat(1, ""), ARGUMENT);
        due("no text", s.stat(0, ""), ARGUMENT);
        due("no path", s.stat(0, "/a/"), ARGUMENT);
        due("no such file", s.stat(0, "/b"), ELEMENT);
        due("below a file", s.stat(0, "/a/a"), UNSUPPORTED);
        s.dueHandles("nothing is left behind", 1, 1);
    }
}
