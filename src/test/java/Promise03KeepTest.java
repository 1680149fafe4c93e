public final class Promise03KeepTest {
    public static void main(String[] args) {
        Session s = new Session().directories("/a", "/b").files("/a/c");
        s.type("/a");
        Session.due("keep", s.x.keep(), 2);
        Session.due("the text is empty", s.x.type('/'), 1);
        s.type("b");
        Session.due("bind what is kept", Session.answer(() -> s.x.bind(0, 0)), 1);
        Session.due("it was /a at /b", s.stat(0, "/b/c"), 6);
        s.type("/b");
        Session.due("a call with a path empties what is kept", Session.answer(() -> s.x.bind(0, 0)), Session.ILLEGAL_ARGUMENT);
        s.keep("/x").keep("/a").type("/b");
        Session.due("the later one counts", Session.answer(() -> s.x.bind(0, 0)), 1);
        s.keep("/a");
        Session.due("an empty text is kept too", s.x.keep(), 0);
        s.type("/b");
        Session.due("it is no path", Session.answer(() -> s.x.bind(0, 0)), Session.ILLEGAL_ARGUMENT);
        stays();
        Session.end("promise 3");
    }

    private static void stays() {
        Session s = new Session();
        s.keep("/").type("/");
        Session.due("no such process", Session.answer(() -> s.x.bind(1, 1)), Session.ILLEGAL_ARGUMENT);
        Session.due("what is kept stays then", Session.answer(() -> s.x.bind(0, 1)), 2);
        s.keep("/");
        Session.due("stat empties it", s.stat(0, "/"), 1);
        s.type("/");
        Session.due("it is empty", Session.answer(() -> s.x.bind(0, 1)), Session.ILLEGAL_ARGUMENT);
        s.keep("/");
        Session.due("so does a path that is none", s.stat(0, "/x"), Session.ILLEGAL_ARGUMENT);
        s.type("/");
        Session.due("it is empty again", Session.answer(() -> s.x.bind(0, 1)), Session.ILLEGAL_ARGUMENT);
    }
}
