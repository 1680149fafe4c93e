public final class Promise13UnmountTest {
    public static void main(String[] args) {
        Session s = new Session().directories("/a", "/b").files("/f");
        Session.due("no process", s.unmount(1, ""), Session.ILLEGAL_ARGUMENT);
        Session.due("no path", s.unmount(0, "a"), Session.ILLEGAL_ARGUMENT);
        Session.due("no such file", s.unmount(0, "/c"), Session.NO_SUCH_ELEMENT);
        Session.due("below a file", s.unmount(0, "/f/c"), Session.UNSUPPORTED);
        int sent = s.messages(0);
        Session.due("no place", s.unmount(0, "/a"), Session.UNSUPPORTED);
        Session.due("walk, clunk", s.messages(0) - sent, 2);
        Session.due("the beginning is no place", s.unmount(0, "/"), Session.UNSUPPORTED);
        Session.due("nothing is left behind", s.handles(0), 1);
        s.bind(0, "/b", "/a", 2);
        s.bind(0, "/a", "/", 2);
        s.mount(0, 1, "/b", 0);
        Session.due("places", s.x.process(0, 2), 3);
        sent = s.messages(0);
        Session.due("the first of three", s.unmount(0, "/a"), 2);
        Session.due("walk, two clunks, clunk", s.messages(0) - sent, 4);
        s.dueBytes("what was walked to is the last", 0, 11, 0, 0, 0, 120, 1, 0, 5, 0, 0, 0);
        Session.due("it is no place any more", s.unmount(0, "/a"), Session.UNSUPPORTED);
        sent = s.messages(0);
        Session.due("the beginning", s.unmount(0, "/"), 1);
        Session.due("two clunks", s.messages(0) - sent, 2);
        Session.due("members", s.x.process(0, 3), 1);
        Session.due("the beginning is there", s.stat(0, "/"), 1);
        Session.due("the last", s.unmount(0, "/b"), 0);
        Session.due("no handle is left", s.handles(0) + s.handles(1), 2);
        Session.due("an old place is new again", s.bind(0, "/b", "/a", 2), 2);
        Session.end("promise 13");
    }
}
