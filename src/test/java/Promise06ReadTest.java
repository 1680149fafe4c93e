public final class Promise06ReadTest {
    public static void main(String[] args) {
        wrong();
        files();
        directories();
        unions();
        errors();
        Session.end("promise 6");
    }

    private static void wrong() {
        Session s = new Session();
        s.file(0, "/a");
        Session.due("no process", s.read(1, 0), Session.ILLEGAL_ARGUMENT);
        Session.due("no process", s.read(-1, 0), Session.ILLEGAL_ARGUMENT);
        Session.due("no process", s.read(4, 0), Session.ILLEGAL_ARGUMENT);
        Session.due("no open file", s.read(0, 1), Session.ILLEGAL_ARGUMENT);
        Session.due("no open file", s.read(0, -1), Session.ILLEGAL_ARGUMENT);
        Session.due("no open file", s.read(0, 5), Session.ILLEGAL_ARGUMENT);
        s.open(0, "/a", 1);
        int sent = s.messages(0);
        Session.due("only written", s.read(0, 1), Session.UNSUPPORTED);
        Session.due("nothing was sent", s.messages(0) - sent, 0);
    }

    private static void files() {
        Session s = new Session();
        s.file(0, "/a");
        s.write(0, 0, 200);
        s.open(0, "/a", 0);
        Session.due("a byte", s.read(0, 1), 200);
        s.dueBytes("read", 0, 15, 0, 0, 0, 116, 1, 0, 2, 0, 0, 0, 0, 0, 0, 0);
        s.dueBytes("its reply", 1, 10, 0, 0, 0, 117, 1, 0, 1, 0, 200);
        Session.due("no more", s.read(0, 1), -1);
        s.dueBytes("read at 1", 0, 15, 0, 0, 0, 116, 1, 0, 2, 0, 0, 0, 1, 0, 0, 0);
        s.dueBytes("its reply", 1, 9, 0, 0, 0, 117, 1, 0, 0, 0);
        s.write(0, 0, 0);
        Session.due("what came later", s.read(0, 1), 0);
        Session.due("no more", s.read(0, 1), -1);
        s.open(0, "/a", 2);
        Session.due("each has a place of its own", s.read(0, 2), 200);
    }

    private static void directories() {
        Session s = new Session();
        s.files("/h", "/a", "/c");
        s.open(0, "/", 0);
        Session.due("the lowest serial first", s.read(0, 0), 'h');
        s.remove(0, "/h");
        Session.due("the place counts those that are there", s.read(0, 0), 'c');
        Session.due("no more", s.read(0, 0), -1);
        s.files("/h");
        Session.due("made again, it is the last", s.read(0, 0), 'h');
        s.remove(0, "/a");
        s.remove(0, "/c");
        Session.due("a place beyond", s.read(0, 0), -1);
    }

    private static void unions() {
        Session s = new Session().directories("/a", "/b", "/c").files("/a/d", "/c/e");
        s.bind(0, "/b", "/a", 2);
        s.bind(0, "/c", "/a", 2);
        s.open(0, "/a", 0);
        Session.due("of the first", s.read(0, 0), 'd');
        int sent = s.messages(0);
        Session.due("on to the third", s.read(0, 0), 'e');
        Session.due("in one call", s.messages(0) - sent, 3);
        s.files("/a/f");
        sent = s.messages(0);
        Session.due("it does not go back", s.read(0, 0), -1);
        Session.due("one message", s.messages(0) - sent, 1);
        s.files("/c/g");
        Session.due("the last goes on", s.read(0, 0), 'g');
    }

    private static void errors() {
        Session s = new Session();
        s.file(0, "/a");
        s.remove(0, "/a");
        Session.due("gone", s.read(0, 0), Session.NO_SUCH_ELEMENT);
        s.dueBytes("error n", 1, 10, 0, 0, 0, 107, 1, 0, 1, 0, 110);
        Session.due("still open", s.x.process(0, 1), 1);

        Session u = new Session().directories("/a", "/b", "/c").files("/c/d");
        u.bind(0, "/b", "/a", 0);
        u.bind(0, "/c", "/a", 2);
        u.open(0, "/a", 0);
        u.remove(0, "/b");
        Session.due("an error, and a next one", u.read(0, 0), 'd');
        u.remove(0, "/c/d");
        u.remove(0, "/c");
        Session.due("an error at the last of two", u.read(0, 0), -1);
        Session.due("error n", u.x.wire(1, 9), 'n');

        Session v = new Session().directories("/a", "/b");
        v.bind(0, "/b", "/a", 0);
        v.open(0, "/a", 0);
        v.remove(0, "/b");
        Session.due("an error at the only one of a place", v.read(0, 0), Session.NO_SUCH_ELEMENT);
        onceTwo();
    }

    /* Of two handles one got an error when it was opened: 'ever' counts it. */
    private static void onceTwo() {
        Session s = new Session().directories("/a", "/b", "/c");
        s.bind(0, "/b", "/a", 0);
        s.bind(0, "/c", "/a", 2);
        s.remove(0, "/b");
        s.open(0, "/a", 0);
        s.remove(0, "/c");
        Session.due("an error at the one that is left of two", s.read(0, 0), -1);
    }
}
