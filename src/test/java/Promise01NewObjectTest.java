public final class Promise01NewObjectTest {
    public static void main(String[] args) {
        Session s = new Session();
        for (int server = 0; server < 2; server++) {
            Session.due("messages", s.x.server(server, 0), 1);
            Session.due("handles", s.x.server(server, 1), 1);
            Session.due("files", s.x.server(server, 2), 1);
            Session.due("next serial", s.x.server(server, 3), 1);
        }
        Session.due("process 0 is there", s.x.process(0, 0), 1);
        Session.due("nothing is open", s.x.process(0, 1), 0);
        Session.due("no places", s.x.process(0, 2), 0);
        Session.due("no members", s.x.process(0, 3), 0);
        for (int p = 1; p < 4; p++) {
            Session.due("process " + p + " is not there", s.x.process(p, 0), 0);
        }
        s.dueBytes("the attach at first", 0, 11, 0, 0, 0, 104, 1, 0, 0, 0, 0, 0);
        s.dueBytes("its reply", 1, 16, 0, 0, 0, 105, 1, 0, 1, 0, 0, 0, 0, 0, 0, 0, 0);
        Session.due("the text is empty", s.x.keep(), 0);
        Session.due("an empty text is no path", Session.answer(() -> s.x.stat(0)), Session.ILLEGAL_ARGUMENT);
        s.type("/");
        Session.due("nothing is kept", Session.answer(() -> s.x.bind(0, 0)), Session.ILLEGAL_ARGUMENT);
        Session.due("objects share nothing", new Session().x.server(0, 0), 1);
        Session.end("promise 1");
    }
}
