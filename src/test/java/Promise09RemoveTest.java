public final class Promise09RemoveTest {
    public static void main(String[] args) {
        Session s = new Session().directories("/a").files("/a/b", "/c");
        int sent = s.messages(0);
        Session.due("no process", s.remove(2, ""), Session.ILLEGAL_ARGUMENT);
        Session.due("no path", s.remove(0, "/a/"), Session.ILLEGAL_ARGUMENT);
        Session.due("the path /", s.remove(0, "/"), Session.UNSUPPORTED);
        Session.due("a path that means /", s.remove(0, "/a/.."), Session.UNSUPPORTED);
        Session.due("nothing was sent", s.messages(0) - sent, 0);
        Session.due("no such file", s.remove(0, "/d"), Session.NO_SUCH_ELEMENT);
        Session.due("below a file", s.remove(0, "/c/d"), Session.UNSUPPORTED);
        Session.due("a directory with a file", s.remove(0, "/a"), Session.UNSUPPORTED);
        s.dueBytes("remove", 0, 11, 0, 0, 0, 122, 1, 0, 1, 0, 0, 0);
        s.dueBytes("error p", 1, 10, 0, 0, 0, 107, 1, 0, 1, 0, 112);
        Session.due("the handle stands for nothing all the same", s.handles(0), 1);
        sent = s.messages(0);
        Session.due("a file", s.remove(0, "/a/b"), 2);
        Session.due("walk, walk, clunk, remove", s.messages(0) - sent, 4);
        s.dueBytes("the reply", 1, 7, 0, 0, 0, 123, 1, 0);
        Session.due("the handle stands for nothing", s.handles(0), 1);
        Session.due("it is gone", s.stat(0, "/a/b"), Session.NO_SUCH_ELEMENT);
        Session.due("an empty directory", s.remove(0, "/a"), 1);
        Session.due("two files are left", s.x.server(0, 2), 2);
        Session.due("the serial is not used again", s.x.server(0, 3), 4);
        places();
        Session.end("promise 9");
    }

    private static void places() {
        Session s = new Session().directories("/a");
        s.mount(0, 1, "/a", 4);
        s.files("/a/b", "/a/c");
        Session.due("through a place, of the other server", s.remove(0, "/a/c"), 2);
        Session.due("it went there", s.x.server(1, 2), 2);
        Session.due("a place itself: its own file goes, which has none in it", s.remove(0, "/a"), 1);
        Session.due("the place stays", s.x.process(0, 2), 1);
        Session.due("but is not found", s.unmount(0, "/a"), Session.NO_SUCH_ELEMENT);
        s.directories("/a");
        Session.due("a new one of that name is no place", s.unmount(0, "/a"), Session.UNSUPPORTED);
    }
}
