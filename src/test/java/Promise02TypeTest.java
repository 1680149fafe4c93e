public final class Promise02TypeTest {
    public static void main(String[] args) {
        Session s = new Session();
        for (int i = 1; i <= 24; i++) {
            Session.due("type " + i, s.x.type('/'), i);
        }
        Session.due("type 25", Session.answer(() -> s.x.type('a')), Session.ILLEGAL_STATE);
        Session.due("the full text stays", s.x.keep(), 24);
        Session.due("then it is empty", s.x.type('\uffff'), 1);
        Session.due("any character counts", s.x.type('\0'), 2);
        Session.due("and is no path", Session.answer(() -> s.x.stat(0)), Session.ILLEGAL_ARGUMENT);
        Session.due("a call with a path empties the text", s.x.type('/'), 1);
        longPath();
        emptied();
        Session.end("promise 2");
    }

    private static void longPath() {
        Session s = new Session().directories("/a");
        Session.due("a path of 23 characters", s.stat(0, "/a/../a/../b/../a/../.."), 1);
        Session.due("twelve names", s.stat(0, "/a/b/c/d/e/f/g/h/a/b/c/d"), Session.NO_SUCH_ELEMENT);
        Session.due("eight times up", s.stat(0, "/../../../../../../../.."), 1);
    }

    private static void emptied() {
        Session s = new Session();
        s.type("/");
        Session.due("no such process", Session.answer(() -> s.x.stat(1)), Session.ILLEGAL_ARGUMENT);
        Session.due("the text stays then", Session.answer(() -> s.x.stat(0)), 1);
        s.type("/");
        Session.due("wrong mode", Session.answer(() -> s.x.open(0, 3)), Session.ILLEGAL_ARGUMENT);
        Session.due("the text is empty then", s.x.type('/'), 1);
        Session.due("fork has no path", s.fork(0, true), 1);
        Session.due("exit has no path", s.exit(1), 1);
        Session.due("read has no path", s.read(0, 0), Session.ILLEGAL_ARGUMENT);
        Session.due("so the text stays", s.x.type('a'), 2);
    }
}
