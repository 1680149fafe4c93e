public final class Promise15ExitTest {
    public static void main(String[] args) {
        Session s = new Session().directories("/a", "/b");
        Session.due("process 0", s.exit(0), Session.ILLEGAL_ARGUMENT);
        Session.due("no process", s.exit(1), Session.ILLEGAL_ARGUMENT);
        Session.due("no process", s.exit(-1), Session.ILLEGAL_ARGUMENT);
        Session.due("no process", s.exit(4), Session.ILLEGAL_ARGUMENT);
        s.bind(0, "/b", "/a", 2);
        s.fork(0, false);
        s.fork(1, true);
        s.open(1, "/a", 0);
        s.open(1, "/b", 0);
        int sent = s.messages(0);
        Session.due("one of two with a name space", s.exit(1), 2);
        Session.due("three handles of files", s.messages(0) - sent, 3);
        s.dueBytes("the highest file is the last", 0, 11, 0, 0, 0, 120, 1, 0, 5, 0, 0, 0);
        Session.due("it is not there", s.x.process(1, 0), 0);
        Session.due("no places", s.x.process(1, 2), 0);
        Session.due("nothing works", s.open(1, "", 0), Session.ILLEGAL_ARGUMENT);
        Session.due("not again", s.exit(1), Session.ILLEGAL_ARGUMENT);
        Session.due("the other keeps the name space", s.x.process(2, 3), 2);
        sent = s.messages(0);
        Session.due("the last with it", s.exit(2), 1);
        Session.due("two members", s.messages(0) - sent, 2);
        s.dueBytes("in order", 0, 11, 0, 0, 0, 120, 1, 0, 4, 0, 0, 0);
        Session.due("only process 0's are left", s.handles(0), 3);
        Session.due("nothing is left open in a new one", s.fork(0, true), 1);
        Session.due("of old files", s.x.process(1, 1), 0);
        sent = s.messages(0);
        Session.due("a shared one goes", s.exit(1), 1);
        Session.due("nothing is sent", s.messages(0) - sent, 0);
        Session.due("process 0 keeps its places", s.x.process(0, 3), 2);
        Session.end("promise 15");
    }
}
