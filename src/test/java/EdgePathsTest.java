/** Boundary sentences of 'Terms' about what is a path and what it means. */
public final class EdgePathsTest extends Edge {
    private static final String EIGHT_UP = "/../../../../../../../..";

    private static final String[] NO_PATHS = {
        "", "a", "..", ".", "//", "/a/", "/../", "/a//b", "//a", "/i", "/`", "/A", "/H", "/1", "/ ", " /a", "/a ",
        "/.", "/a/.", "/./a", "/...", "/.../a", "/.a", "/a.", "/..a", "/a..", "/ab", "/a/..b", "a/b", "../a", "\\a",
        "/-", "/\0", "\0", "/a\0", "/\u0161", "\u012fa", "/\u012e\u012e", "/\u012e.", "/.\u012e", "/a/\uffff",
        "/a/a/a/a/a/a/a/a/a/a/a//", "/a/a/a/a/a/a/a/a/a/a/a/.", "/../../../../../../../.", "/../../../../../../../.a",
    };

    public static void main(String[] args) {
        sentence("Other texts are no paths.", EdgePathsTest::noPaths);
        sentence("Other texts are no paths.", EdgePathsTest::noKeptPaths);
        sentence("Other texts are no paths.", EdgePathsTest::whatWasTypedBefore);
        sentence("PATHS are texts: /, or one or more of / and a NAME", EdgePathsTest::paths);
        sentence("one or more of / and a NAME", EdgePathsTest::twelveNames);
        sentence("each .. is taken away together with the name before it, if there is one", EdgePathsTest::pairs);
        sentence("each .. is taken away together with the name before it, if there is one", EdgePathsTest::nothingBefore);
        sentence("each .. is taken away together with the name before it, if there is one", EdgePathsTest::wordsAlone);
        Session.end("edges of paths");
    }

    private static void noPaths() {
        for (String text : NO_PATHS) {
            Session s = new Session().directories("/a", "/a/b");
            s.mark();
            due("stat of " + text, s.stat(0, text), ARGUMENT);
            due("open of " + text, s.open(0, text, 0), ARGUMENT);
            due("create of " + text, s.file(0, text), ARGUMENT);
            due("remove of " + text, s.remove(0, text), ARGUMENT);
            due("bind at " + text, s.bind(0, "/a", text, 0), ARGUMENT);
            due("mount at " + text, s.mount(0, 1, text, 0), ARGUMENT);
            due("unmount of " + text, s.unmount(0, text), ARGUMENT);
            s.dueSent("nothing", 0, 0);
        }
    }

    private static void noKeptPaths() {
        for (String text : NO_PATHS) {
            Session s = new Session().directories("/a", "/a/b");
            s.mark();
            due("bind of " + text, s.bind(0, text, "/a", 0), ARGUMENT);
            s.dueSent("nothing", 0, 0);
        }
    }

    /* A shorter text must not be read on into what stood there before. */
    private static void whatWasTypedBefore() {
        Session s = new Session().directories("/a", "/a/b");
        due("a longer one", s.stat(0, "/a/b"), 5);
        due("without its end", s.stat(0, "/a/"), ARGUMENT);
        due("up", s.stat(0, "/a/.."), 1);
        due("with one point of two", s.stat(0, "/a/."), ARGUMENT);
        due("nothing", s.stat(0, ""), ARGUMENT);
        due("the shortest", s.stat(0, "/"), 1);
        s.keep("/a/b");
        due("kept before", s.bind(0, "/a/", "/a", 0), ARGUMENT);
        s.keep("/a/..");
        due("kept before", s.bind(0, "/a/.", "/a", 0), ARGUMENT);
    }

    private static void paths() {
        Session s = new Session().directories("/a", "/a/h").files("/h");
        due("/", s.stat(0, "/"), 1);
        due("the first letter", s.stat(0, "/a"), 3);
        due("the last letter", s.stat(0, "/h"), 6);
        due("two names", s.stat(0, "/a/h"), 5);
        due("a letter that is no file", s.stat(0, "/b"), ELEMENT);
        due("as a first name", s.stat(0, "/b/h"), ELEMENT);
    }

    private static void twelveNames() {
        Session s = new Session();
        StringBuilder path = new StringBuilder();
        for (int i = 1; i <= 12; i++) {
            path.append("/a");
            s.directories(path.toString());
        }
        s.mark();
        due("24 characters, twelve names", s.stat(0, path.toString()), 25);
        s.dueSent("twelve walks, eleven clunks, stat, clunk", 25, 0);
        due("removed", s.remove(0, path.toString()), 12);
        due("the last of twelve is not there", s.stat(0, path.toString()), ELEMENT);
        due("made again", s.file(0, path.toString()), 0);
        due("it is a file now", s.stat(0, path.toString()), 26);
        due("eleven names and one up", s.stat(0, path.substring(0, 20) + "/.."), 19);
        s.dueHandles("the beginning and the file", 2, 1);
    }

    private static void pairs() {
        Session s = new Session().directories("/a", "/a/b").files("/a/c");
        due("one", s.stat(0, "/a/.."), 1);
        due("the last one", s.stat(0, "/a/b/.."), 3);
        due("two after two", s.stat(0, "/a/b/../.."), 1);
        due("two by turns", s.stat(0, "/a/../a/.."), 1);
        due("before a name", s.stat(0, "/b/../a"), 3);
        due("between names", s.stat(0, "/a/h/../b"), 5);
        due("two between names", s.stat(0, "/h/h/../../a/h/../c"), 6);
        due("only the name before it", s.stat(0, "/a/../b"), ELEMENT);
        s.mark();
        due("what is taken away is not walked", s.stat(0, "/a/b/../.."), 1);
        s.dueSent("stat", 1, 0);
    }

    private static void nothingBefore() {
        Session s = new Session().directories("/a");
        due("up from /", s.stat(0, "/.."), 1);
        due("twice", s.stat(0, "/../.."), 1);
        due("eight times, 24 characters", s.stat(0, EIGHT_UP), 1);
        due("and down", s.stat(0, "/../a"), 3);
        due("more often than down", s.stat(0, "/a/../../a"), 3);
        due("it does not take away a later name", s.stat(0, "/../../a"), 3);
        due("seven times and down", s.stat(0, "/../../../../../../../a"), 3);
        due("for a path that is kept", s.bind(0, EIGHT_UP, "/../a", 0), 1);
        due("it was /", s.stat(0, "/a/a"), 3);
    }

    /* The words of a path alone count, not what is there. */
    private static void wordsAlone() {
        Session s = new Session().directories("/a").files("/f");
        due("a name that is no file", s.stat(0, "/h/.."), 1);
        due("a file that is no directory", s.stat(0, "/f/../a"), 3);
        due("a name below a file", s.stat(0, "/f/h/../../a"), 3);
        s.mount(0, 1, "/a", 4);
        s.directories("/a/b");
        due("out of another server", s.stat(0, "/a/b/.."), 3);
        due("out of a place", s.stat(0, "/a/b/../.."), 1);
        due("a path that means / for create", s.file(0, "/a/.."), UNSUPPORTED);
        due("a path that means / for remove", s.remove(0, "/a/b/../.."), UNSUPPORTED);
        due("the last name that is left is made", s.file(0, "/c/h/.."), 0);
        due("it was /c", s.stat(0, "/c"), 6);
    }
}
