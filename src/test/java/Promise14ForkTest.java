public final class Promise14ForkTest {
    public static void main(String[] args) {
        wrong();
        spaces();
        Session.end("promise 14");
    }

    private static void wrong() {
        Session s = new Session();
        Session.due("no process", s.fork(1, true), Session.ILLEGAL_ARGUMENT);
        Session.due("no process", s.fork(-1, false), Session.ILLEGAL_ARGUMENT);
        Session.due("no process", s.fork(4, false), Session.ILLEGAL_ARGUMENT);
        Session.due("1", s.fork(0, false), 1);
        Session.due("2", s.fork(1, true), 2);
        Session.due("3", s.fork(2, false), 3);
        Session.due("four are there", s.fork(0, true), Session.ILLEGAL_STATE);
        Session.due("four are there", s.fork(3, false), Session.ILLEGAL_STATE);
        Session.due("no process is seen first", s.fork(4, true), Session.ILLEGAL_ARGUMENT);
        s.exit(2);
        s.exit(1);
        Session.due("the least", s.fork(3, false), 1);
        Session.due("nothing was sent", s.messages(0), 1);
    }

    private static void spaces() {
        Session s = new Session().directories("/a", "/b").files("/b/c");
        s.bind(0, "/b", "/a", 6);
        s.mount(0, 1, "/", 2);
        s.open(0, "/a", 0);
        int sent0 = s.messages(0);
        int sent1 = s.messages(1);
        Session.due("shared", s.fork(0, true), 1);
        Session.due("nothing is sent", s.messages(0) + s.messages(1), sent0 + sent1);
        Session.due("nothing is open", s.x.process(1, 1), 0);
        Session.due("copied", s.fork(0, false), 2);
        Session.due("three walks", s.messages(0) - sent0, 3);
        Session.due("one walk", s.messages(1) - sent1, 1);
        s.dueBytes("the last place's last member", 0, 17, 0, 0, 0, 110, 1, 0, 1, 0, 0, 0, 2, 0, 0, 0, 0, 0);
        Session.due("nothing is open", s.x.process(2, 1), 0);
        Session.due("places", s.x.process(2, 2), 2);
        Session.due("members", s.x.process(2, 3), 4);
        Session.due("it is seen by the copy", s.stat(2, "/a/c"), 6);
        Session.due("a place of the shared one goes", s.unmount(1, "/a"), 1);
        Session.due("from process 0 too", s.stat(0, "/a/c"), Session.NO_SUCH_ELEMENT);
        Session.due("not from the copy", s.stat(2, "/a/c"), 6);
        Session.due("the copy keeps its order and where files may be made", s.file(2, "/a/c"), 0);
        Session.due("in /a", s.stat(0, "/a/c"), 8);
        Session.due("a place that the copy makes is its own", s.mount(2, 1, "/b", 0), 1);
        Session.due("not of process 0", s.x.process(0, 2), 1);
        goneMember();
    }

    private static void goneMember() {
        Session s = new Session().directories("/a", "/b");
        s.bind(0, "/b", "/a", 4);
        s.remove(0, "/b");
        Session.due("a member that is gone is copied too", s.fork(0, false), 1);
        s.dueBytes("without an error", 1, 7, 0, 0, 0, 111, 1, 0);
        Session.due("its handle", s.handles(0), 3);
        Session.due("members", s.x.process(1, 3), 1);
    }
}
