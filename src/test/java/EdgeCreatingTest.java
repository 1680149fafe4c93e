/** Boundary sentences of 'Terms' about creating a file. */
public final class EdgeCreatingTest extends Edge {
    public static void main(String[] args) {
        sentence("the path (not /) without its last name is walked", EdgeCreatingTest::withoutTheLastName);
        sentence("If that is a place: the first member where files may be made", EdgeCreatingTest::firstMember);
        sentence("otherwise what was walked to, gets a WALK without a name to a new handle; what was walked to is clunked", EdgeCreatingTest::noPlace);
        sentence("if no member may: UnsupportedOperationException, when it is clunked", EdgeCreatingTest::noMemberMay);
        sentence("with an error it is clunked, and thrown is IllegalStateException (f), UnsupportedOperationException (d, x) or NoSuchElementException (n)", EdgeCreatingTest::errors);
        sentence("otherwise it gets OPEN with mode 2, for a directory 0", EdgeCreatingTest::modes);
        Session.end("edges of creating");
    }

    private static void withoutTheLastName() {
        Session s = new Session().directories("/a");
        s.mark();
        due("one name: nothing is walked by name", s.file(0, "/b"), 0);
        s.dueSent("walk, create, open", 3, 0);
        s.mark();
        due("two names", s.file(0, "/a/b"), 1);
        s.dueSent("walk, walk, clunk, create, open", 5, 0);
        s.mark();
        due("the last name is not walked", s.file(0, "/h/b"), ELEMENT);
        s.dueSent("walk", 1, 0);
        s.mark();
        due("no name", s.directory(0, "/.."), UNSUPPORTED);
        s.dueSent("nothing", 0, 0);
        s.bind(0, "/a", "/a", 4);
        due("the last name may be a place", s.file(0, "/a"), UNSUPPORTED);
        due("what is made may be what is behind", s.file(0, "/a/c"), 2);
    }

    private static void firstMember() {
        Session s = new Session().directories("/a", "/b", "/c");
        s.bind(0, "/b", "/a", 0);
        s.bind(0, "/c", "/a", 6);
        s.mount(0, 1, "/a", 6);
        s.mark();
        due("the second of three", s.file(0, "/a/h"), 0);
        s.dueSent("walk, walk, clunk, create, open", 5, 0);
        s.dueLatest("its copy was made before what was walked to was clunked", OPEN, 4);
        due("in /c", s.stat(0, "/c/h"), 8);
        due("a name that the first that may has", s.file(0, "/a/h"), UNSUPPORTED);
        due("the third has nothing", s.x.server(1, 2), 1);
        s.files("/b/g");
        due("a name that one before it has", s.file(0, "/a/g"), 1);
        due("in /c too", s.stat(0, "/c/g"), 12);
        due("the one before it is found", s.stat(0, "/a/g"), 10);
        s.mount(0, 1, "/a", 0);
        s.mount(0, 1, "/a", 2);
        s.mount(0, 1, "/a", 6);
        s.mark();
        due("the third of three", s.file(0, "/a/f"), 2);
        s.dueSent("walk, clunk, and walk, create, open", 2, 3);
        s.dueLatest("behind the members 2, 1 and 3", OPEN, 4);
    }

    private static void noPlace() {
        Session s = new Session().directories("/a");
        s.mark();
        due("in a directory", s.file(0, "/a/b"), 0);
        s.dueSent("walk, walk, clunk, create, open", 5, 0);
        s.dueLatest("the new handle", OPEN, 2);
        s.mark();
        due("at the beginning, which is not clunked", s.file(0, "/b"), 1);
        s.dueSent("walk, create, open", 3, 0);
        s.dueLatest("the new handle", OPEN, 1);
        s.dueHandles("the beginning and two files", 3, 1);
    }

    private static void noMemberMay() {
        Session s = new Session().directories("/a", "/b").files("/b/h");
        s.mount(0, 1, "/a", 0);
        s.bind(0, "/b", "/a", 1);
        s.mount(0, 1, "/a", 2);
        s.mark();
        due("none of three", s.file(0, "/a/c"), UNSUPPORTED);
        s.dueSent("walk, clunk", 2, 0);
        s.dueLatest("what was walked to", CLUNK, 2);
        s.dueHandles("members alone", 2, 3);
        due("a directory neither", s.directory(0, "/a/c"), UNSUPPORTED);
        due("nothing was made", s.x.server(0, 2) + s.x.server(1, 2), 5);
        due("nothing is open", s.x.process(0, 1), 0);
        s.mount(0, 1, "/", 0);
        s.mark();
        due("at the beginning, which is not clunked", s.file(0, "/c"), UNSUPPORTED);
        s.dueSent("nothing", 0, 0);
    }

    private static void errors() {
        Session s = new Session();
        fill(s);
        s.mark();
        due("f", s.file(0, "/c/a"), STATE);
        s.dueSent("walk, walk, clunk, create, clunk", 5, 0);
        s.dueLatest("the new handle", CLUNK, 2);
        s.mark();
        due("d", s.file(0, "/b/a/a"), UNSUPPORTED);
        s.dueSent("walk, walk, clunk, walk, clunk, create, clunk", 7, 0);
        s.mark();
        due("x", s.file(0, "/b/a"), UNSUPPORTED);
        s.dueSent("walk, walk, clunk, create, clunk", 5, 0);
        s.bind(0, "/d", "/c", 4);
        s.remove(0, "/d");
        s.mark();
        due("n", s.file(0, "/c/a"), ELEMENT);
        s.dueSent("walk, walk, clunk, create, clunk", 5, 0);
        s.dueHandles("the beginning and the member", 2, 1);
        due("nothing is open", s.x.process(0, 1), 0);
        due("no serial was taken", s.x.server(0, 3), 20);
    }

    private static void modes() {
        Session s = new Session();
        s.file(0, "/a");
        due("a file: mode 2", s.x.wire(0, 11), 2);
        due("it is written", s.write(0, 0, 1), 1);
        due("and read", s.read(0, 0), -1);
        s.directory(0, "/b");
        due("a directory: mode 0", s.x.wire(0, 11), 0);
        due("it is not written", s.write(0, 1, 1), UNSUPPORTED);
        due("but read", s.read(0, 1), -1);
    }
}
