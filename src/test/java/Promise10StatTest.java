public final class Promise10StatTest {
    public static void main(String[] args) {
        Session s = new Session().directories("/a").files("/a/b");
        Session.due("no process", s.stat(3, ""), Session.ILLEGAL_ARGUMENT);
        Session.due("no path", s.stat(0, "/a/."), Session.ILLEGAL_ARGUMENT);
        int sent = s.messages(0);
        Session.due("the beginning", s.stat(0, "/"), 1);
        Session.due("stat alone", s.messages(0) - sent, 1);
        s.dueBytes("stat", 0, 11, 0, 0, 0, 124, 1, 0, 0, 0, 0, 0);
        s.dueBytes("its reply", 1, 16, 0, 0, 0, 125, 1, 0, 1, 0, 0, 0, 0, 0, 0, 0, 0);
        sent = s.messages(0);
        Session.due("a directory", s.stat(0, "/a"), 3);
        Session.due("walk, stat, clunk", s.messages(0) - sent, 3);
        Session.due("a file", s.stat(0, "/a/b"), 4);
        Session.due("clunk is the last", s.x.wire(0, 4), 120);
        Session.due("no such file", s.stat(0, "/a/c"), Session.NO_SUCH_ELEMENT);
        Session.due("below a file", s.stat(0, "/a/b/a"), Session.UNSUPPORTED);
        Session.due("below nothing", s.stat(0, "/b/b"), Session.NO_SUCH_ELEMENT);
        Session.due("nothing is left behind", s.handles(0), 1);
        Session.due("names are taken away", s.stat(0, "/../c/d/../../a"), 3);
        s.mount(0, 1, "/a", 4);
        Session.due("a place is its own file", s.stat(0, "/a"), 3);
        s.directories("/a/h");
        s.files("/a/h/g");
        Session.due("a directory of the other server", s.stat(0, "/a/h"), 103);
        Session.due("a file of the other server", s.stat(0, "/a/h/g"), 104);
        Session.due("nothing is left there", s.handles(1), 2);
        walks();
        Session.end("promise 10");
    }

    /* Members are asked in their order, and what was walked to is clunked after. */
    private static void walks() {
        Session s = new Session().directories("/a", "/b", "/a/c").files("/b/c", "/b/d");
        s.bind(0, "/b", "/a", 1);
        Session.due("the first that has it", s.stat(0, "/a/c"), 8);
        int sent = s.messages(0);
        Session.due("also if the name below fails", s.stat(0, "/a/c/a"), Session.UNSUPPORTED);
        Session.due("walk, walk, clunk, walk, clunk", s.messages(0) - sent, 5);
        s.unmount(0, "/a");
        s.bind(0, "/b", "/a", 2);
        Session.due("the place first", s.stat(0, "/a/c"), 7);
        sent = s.messages(0);
        Session.due("the second has it", s.stat(0, "/a/d"), 10);
        Session.due("walk, two walks, clunk, stat, clunk", s.messages(0) - sent, 6);
        sent = s.messages(0);
        Session.due("none has it", s.stat(0, "/a/e"), Session.NO_SUCH_ELEMENT);
        Session.due("walk, two walks, clunk", s.messages(0) - sent, 4);
        Session.due("only the members stay", s.handles(0), 3);
        goneMembers();
    }

    private static void goneMembers() {
        Session s = new Session().directories("/a", "/b");
        s.bind(0, "/b", "/a", 0);
        s.remove(0, "/b");
        Session.due("the only member is gone", s.stat(0, "/a/c"), Session.NO_SUCH_ELEMENT);
        s.mount(0, 1, "/a", 6);
        s.files("/a/c");
        Session.due("the next one is asked", s.stat(0, "/a/c"), 102);
    }
}
