public final class Promise08CloseTest {
    public static void main(String[] args) {
        Session s = new Session().directories("/a", "/b");
        s.bind(0, "/b", "/a", 2);
        s.mount(0, 1, "/a", 2);
        s.open(0, "/a", 0);
        s.open(0, "/b", 0);
        Session.due("no process", s.close(1, 0), Session.ILLEGAL_ARGUMENT);
        Session.due("no process", s.close(-1, 0), Session.ILLEGAL_ARGUMENT);
        Session.due("no process", s.close(4, 0), Session.ILLEGAL_ARGUMENT);
        Session.due("no open file", s.close(0, 2), Session.ILLEGAL_ARGUMENT);
        Session.due("no open file", s.close(0, -1), Session.ILLEGAL_ARGUMENT);
        Session.due("no open file", s.close(0, 5), Session.ILLEGAL_ARGUMENT);
        int sent0 = s.messages(0);
        int sent1 = s.messages(1);
        int handles0 = s.handles(0);
        int handles1 = s.handles(1);
        Session.due("close", s.close(0, 0), 1);
        Session.due("two clunks", s.messages(0) - sent0, 2);
        Session.due("one clunk of the other server, the last", s.messages(1) - sent1, 1);
        s.dueBytes("clunk", 0, 11, 0, 0, 0, 120, 1, 0, 2, 0, 0, 0);
        s.dueBytes("its reply", 1, 7, 0, 0, 0, 121, 1, 0);
        Session.due("two handles less", handles0 - s.handles(0), 2);
        Session.due("one handle less", handles1 - s.handles(1), 1);
        Session.due("closed already", s.close(0, 0), Session.ILLEGAL_ARGUMENT);
        Session.due("and not read", s.read(0, 0), Session.ILLEGAL_ARGUMENT);
        Session.due("the other one", s.close(0, 1), 0);
        gone();
        Session.end("promise 8");
    }

    private static void gone() {
        Session s = new Session();
        s.file(0, "/a");
        s.remove(0, "/a");
        Session.due("also when it is gone", s.close(0, 0), 0);
        Session.due("its handle too", s.handles(0), 1);
    }
}
