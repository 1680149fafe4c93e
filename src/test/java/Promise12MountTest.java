public final class Promise12MountTest {
    public static void main(String[] args) {
        wrong();
        plain();
        Session.end("promise 12");
    }

    private static void wrong() {
        Session s = new Session();
        Session.due("no process", s.mount(1, 0, "", 0), Session.ILLEGAL_ARGUMENT);
        Session.due("no path", s.mount(0, 0, "/x", 0), Session.ILLEGAL_ARGUMENT);
        Session.due("no server", s.mount(0, 2, "/", 0), Session.ILLEGAL_ARGUMENT);
        Session.due("no server", s.mount(0, -1, "/", 0), Session.ILLEGAL_ARGUMENT);
        Session.due("how", s.mount(0, 1, "/", 3), Session.ILLEGAL_ARGUMENT);
        Session.due("how", s.mount(0, 1, "/", -1), Session.ILLEGAL_ARGUMENT);
        Session.due("how", s.mount(0, 1, "/", 7), Session.ILLEGAL_ARGUMENT);
        Session.due("nothing was sent", s.messages(0) + s.messages(1), 2);
        Session.due("no such place", s.mount(0, 1, "/a", 0), Session.NO_SUCH_ELEMENT);
        Session.due("attach, clunk", s.messages(1), 3);
        s.dueBytes("M is clunked", 0, 11, 0, 0, 0, 120, 1, 0, 1, 0, 0, 0);
        Session.due("nothing is left behind", s.handles(1), 1);
        s.files("/f");
        Session.due("no directory", s.mount(0, 1, "/f", 0), Session.UNSUPPORTED);
        Session.due("nothing is left behind", s.handles(0) + s.handles(1), 2);
    }

    private static void plain() {
        Session s = new Session().directories("/a");
        Session.due("alone at /", s.mount(0, 1, "/", 4), 1);
        s.dueBytes("attach", 0, 11, 0, 0, 0, 104, 1, 0, 1, 0, 0, 0);
        s.dueBytes("its reply", 1, 16, 0, 0, 0, 105, 1, 0, 1, 0, 0, 0, 0, 0, 0, 0, 0);
        Session.due("a directory there", s.directory(0, "/b"), 0);
        Session.due("of server 1", s.stat(0, "/b"), 103);
        Session.due("server 0 behind", s.mount(0, 0, "/", 2), 2);
        Session.due("its directory", s.stat(0, "/a"), 3);
        Session.due("server 0 before, in a directory of server 1", s.mount(0, 0, "/b", 1), 2);
        Session.due("through both", s.stat(0, "/b/a"), 3);
        Session.due("made in the place itself", s.file(0, "/b/a"), 1);
        Session.due("there is one of that name before it", s.stat(0, "/b/a"), 3);
        Session.due("it is on server 1", s.x.server(1, 2), 3);
        s.keep("no path");
        Session.due("what is kept is not looked at", s.mount(0, 1, "/b", 6), 3);
        Session.due("a fourth", s.mount(0, 1, "/b", 5), Session.ILLEGAL_STATE);
        s.keep("/");
        Session.due("but emptied", s.mount(0, 1, "/b", 0), 1);
        s.type("/");
        Session.due("it is empty", Session.answer(() -> s.x.bind(0, 0)), Session.ILLEGAL_ARGUMENT);
    }
}
