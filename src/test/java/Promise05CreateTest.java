public final class Promise05CreateTest {
    public static void main(String[] args) {
        wrong();
        plain();
        full();
        members();
        Session.end("promise 5");
    }

    private static void wrong() {
        Session s = new Session();
        Session.due("no process", s.file(1, ""), Session.ILLEGAL_ARGUMENT);
        Session.due("no path", s.file(0, "/a/"), Session.ILLEGAL_ARGUMENT);
        Session.due("the path /", s.file(0, "/"), Session.UNSUPPORTED);
        Session.due("a path that means /", s.directory(0, "/a/.."), Session.UNSUPPORTED);
        for (int i = 0; i < 5; i++) {
            s.open(0, "/", 0);
        }
        int sent = s.messages(0);
        Session.due("five are open", s.file(0, "/a"), Session.ILLEGAL_STATE);
        Session.due("five are open, seen before /", s.file(0, "/"), Session.ILLEGAL_STATE);
        Session.due("nothing was sent", s.messages(0) - sent, 0);
        Session.due("nothing was made", s.x.server(0, 2), 1);
    }

    private static void plain() {
        Session s = new Session();
        Session.due("a directory", s.directory(0, "/a"), 0);
        Session.due("walk, create, open", s.messages(0), 4);
        s.dueBytes("a directory is opened to read", 0, 12, 0, 0, 0, 112, 1, 0, 1, 0, 0, 0, 0);
        s.dueBytes("the reply", 1, 16, 0, 0, 0, 113, 1, 0, 1, 0, 0, 0, 0, 1, 0, 0, 0);
        Session.due("it is not written", s.write(0, 0, 1), Session.UNSUPPORTED);
        int sent = s.messages(0);
        Session.due("a file", s.file(0, "/a/b"), 1);
        Session.due("walk, walk, clunk, create, open", s.messages(0) - sent, 5);
        s.dueBytes("a file is opened for both", 0, 12, 0, 0, 0, 112, 1, 0, 3, 0, 0, 0, 2);
        Session.due("it is written", s.write(0, 1, 9), 1);
        Session.due("and read on", s.read(0, 1), -1);
        sent = s.messages(0);
        Session.due("the name is taken", s.directory(0, "/a/b"), Session.UNSUPPORTED);
        Session.due("walk, walk, clunk, create, clunk", s.messages(0) - sent, 5);
        Session.due("in a file", s.file(0, "/a/b/c"), Session.UNSUPPORTED);
        Session.due("in nothing", s.file(0, "/b/c"), Session.NO_SUCH_ELEMENT);
        Session.due("below a file", s.file(0, "/a/b/c/d"), Session.UNSUPPORTED);
        Session.due("nothing is left behind", s.handles(0), 3);
        Session.due("the same name elsewhere", s.file(0, "/b"), 2);
        Session.due("serials go on", s.stat(0, "/b"), 6);
        s.remove(0, "/b");
        Session.due("the name is free again", s.file(0, "/b"), 3);
        Session.due("with a serial of its own", s.stat(0, "/b"), 8);
    }

    private static void full() {
        Session s = new Session().directories("/a", "/b");
        for (int i = 0; i < 16; i++) {
            s.files((i < 8 ? "/a/" : "/b/") + (char) ('a' + i % 8));
        }
        Session.due("nineteen files", s.x.server(0, 2), 19);
        Session.due("the twentieth", s.file(0, "/c"), 0);
        int sent = s.messages(0);
        Session.due("one more", s.file(0, "/d"), Session.ILLEGAL_STATE);
        Session.due("walk, create, clunk", s.messages(0) - sent, 3);
        Session.due("a name that is taken is seen first", s.file(0, "/c"), Session.UNSUPPORTED);
        Session.due("a file as directory is seen first", s.file(0, "/c/d"), Session.UNSUPPORTED);
        s.remove(0, "/a/a");
        Session.due("room again", s.file(0, "/d"), 1);
        Session.due("twenty files", s.x.server(0, 2), 20);
        Session.due("serials are not used again", s.x.server(0, 3), 21);
        s.mount(0, 1, "/a", 4);
        Session.due("the other server has room", s.file(0, "/a/d"), 2);
    }

    private static void members() {
        Session s = new Session().directories("/a", "/b");
        s.bind(0, "/b", "/a", 1);
        Session.due("the first where files may be made is /a itself", s.file(0, "/a/c"), 0);
        Session.due("so it is not in /b", s.stat(0, "/b/c"), Session.NO_SUCH_ELEMENT);
        s.mount(0, 1, "/a", 5);
        int sent = s.messages(0);
        Session.due("now the other server is first", s.file(0, "/a/c"), 1);
        Session.due("it is there", s.stat(0, "/a/c"), 102);
        Session.due("server 0: walk, clunk, walk, clunk", s.messages(0) - sent, 4);
        s.mount(0, 0, "/a", 0);
        sent = s.messages(0);
        int left = s.handles(0);
        Session.due("no member may", s.file(0, "/a/d"), Session.UNSUPPORTED);
        Session.due("walk, clunk", s.messages(0) - sent, 2);
        s.dueBytes("it is clunked", 0, 11, 0, 0, 0, 120, 1, 0, s.x.wire(0, 7), 0, 0, 0);
        Session.due("nothing is left behind", s.handles(0), left);
        s.bind(0, "/b", "/a", 4);
        s.remove(0, "/b");
        Session.due("in a directory that is gone", s.file(0, "/a/d"), Session.NO_SUCH_ELEMENT);
    }
}
