public final class Promise11BindTest {
    public static void main(String[] args) {
        wrong();
        newPlaces();
        oldPlaces();
        beginnings();
        refused();
        full();
        Session.end("promise 11");
    }

    private static void wrong() {
        Session s = new Session();
        Session.due("no process", s.bind(1, "", "", 0), Session.ILLEGAL_ARGUMENT);
        Session.due("the text is no path", s.bind(0, "/", "/x", 0), Session.ILLEGAL_ARGUMENT);
        Session.due("the kept one is no path", s.bind(0, "x", "/", 0), Session.ILLEGAL_ARGUMENT);
        for (int how : new int[] {-4, -1, 3, 7, 8, 9, Integer.MIN_VALUE, Integer.MAX_VALUE}) {
            Session.due("how " + how, s.bind(0, "/", "/", how), Session.ILLEGAL_ARGUMENT);
        }
        Session.due("nothing was sent", s.messages(0), 1);
        Session.due("nothing was bound", s.x.process(0, 2), 0);
    }

    private static void newPlaces() {
        Session s = new Session().directories("/a", "/b", "/c").files("/a/d", "/b/d", "/c/d");
        int sent = s.messages(0);
        Session.due("alone", s.bind(0, "/b", "/a", 0), 1);
        Session.due("walk, walk, clunk", s.messages(0) - sent, 3);
        s.dueBytes("what was walked to last", 0, 11, 0, 0, 0, 120, 1, 0, 2, 0, 0, 0);
        Session.due("M is a handle", s.handles(0), 2);
        Session.due("it is seen", s.stat(0, "/a/d"), 10);
        Session.due("no files are made there", s.file(0, "/a/e"), Session.UNSUPPORTED);
        sent = s.messages(0);
        Session.due("before", s.bind(0, "/a", "/c", 5), 2);
        Session.due("walk, walk", s.messages(0) - sent, 2);
        Session.due("both are members", s.handles(0), 4);
        Session.due("M is what is walked to, not what is bound there", s.stat(0, "/c/d"), 8);
        Session.due("files are made in M", s.file(0, "/c/e"), 0);
        Session.due("it is in /a's own", s.stat(0, "/a/e"), Session.NO_SUCH_ELEMENT);
        Session.due("places", s.x.process(0, 2), 2);
        Session.due("members", s.x.process(0, 3), 3);
        Session.due("behind", s.bind(0, "/c", "/b", 2), 2);
        Session.due("the place itself is first", s.stat(0, "/b/d"), 10);
        Session.due("files are made in the place itself", s.file(0, "/b/f"), 1);
        Session.due("which is bound at /a", s.stat(0, "/a/f"), 16);
    }

    private static void oldPlaces() {
        Session s = new Session().directories("/a", "/b", "/c").files("/a/d", "/b/d", "/c/d", "/c/e");
        s.bind(0, "/b", "/a", 2);
        int sent = s.messages(0);
        Session.due("a third behind", s.bind(0, "/c", "/a", 2), 3);
        Session.due("walk, walk, clunk", s.messages(0) - sent, 3);
        s.dueBytes("what was walked to last", 0, 11, 0, 0, 0, 120, 1, 0, 4, 0, 0, 0);
        Session.due("the last is asked too", s.stat(0, "/a/e"), 14);
        sent = s.messages(0);
        Session.due("alone", s.bind(0, "/c", "/a", 4), 1);
        Session.due("walk, walk, three clunks, clunk", s.messages(0) - sent, 6);
        s.dueBytes("what was walked to is the last", 0, 11, 0, 0, 0, 120, 1, 0, 5, 0, 0, 0);
        Session.due("one member", s.handles(0), 2);
        Session.due("it is seen", s.stat(0, "/a/d"), 12);
        Session.due("before", s.bind(0, "/b", "/a", 1), 2);
        Session.due("the first", s.stat(0, "/a/d"), 10);
        Session.due("made in the first that may", s.file(0, "/a/f"), 0);
        Session.due("in /c", s.stat(0, "/c/f"), 16);
        Session.due("still one place", s.x.process(0, 2), 1);
    }

    private static void beginnings() {
        Session s = new Session().directories("/a");
        int sent = s.messages(0);
        Session.due("/a alone at /", s.bind(0, "/a", "/", 0), 1);
        Session.due("walk; the beginning is not clunked", s.messages(0) - sent, 1);
        Session.due("/a is not seen", s.stat(0, "/a"), Session.NO_SUCH_ELEMENT);
        sent = s.messages(0);
        Session.due("/ behind at /", s.bind(0, "/", "/", 2), 2);
        Session.due("walk without a name", s.messages(0) - sent, 1);
        s.dueBytes("its bytes", 0, 17, 0, 0, 0, 110, 1, 0, 0, 0, 0, 0, 2, 0, 0, 0, 0, 0);
        s.dueBytes("its reply", 1, 7, 0, 0, 0, 111, 1, 0);
        Session.due("/a is seen", s.stat(0, "/a"), 3);
        Session t = new Session();
        Session.due("/ before / at a new place", t.bind(0, "/", "/", 1), 2);
        Session.due("two walks without a name", t.messages(0), 3);
        Session.due("two new handles", t.handles(0), 3);
        Session.due("made in the place itself, behind M", t.directory(0, "/a"), 0);
        Session.due("/ at /a", t.bind(0, "/", "/a", 0), 1);
        Session.due("round and round", t.stat(0, "/a/a/a/a"), 3);
    }

    private static void refused() {
        Session s = new Session().directories("/a").files("/f");
        int sent = s.messages(0);
        Session.due("M is not found", s.bind(0, "/b", "/a", 0), Session.NO_SUCH_ELEMENT);
        Session.due("walk", s.messages(0) - sent, 1);
        sent = s.messages(0);
        Session.due("M is no directory", s.bind(0, "/f", "/b", 0), Session.UNSUPPORTED);
        Session.due("walk, clunk; the other is not walked", s.messages(0) - sent, 2);
        sent = s.messages(0);
        Session.due("the place is not found", s.bind(0, "/a", "/b", 0), Session.NO_SUCH_ELEMENT);
        Session.due("walk, walk, clunk M", s.messages(0) - sent, 3);
        Session.due("below a file", s.bind(0, "/a", "/f/a", 0), Session.UNSUPPORTED);
        sent = s.messages(0);
        Session.due("the place is no directory", s.bind(0, "/a", "/f", 1), Session.UNSUPPORTED);
        Session.due("walk, walk, clunk the other, clunk M", s.messages(0) - sent, 4);
        s.dueBytes("M is the last", 0, 11, 0, 0, 0, 120, 1, 0, 1, 0, 0, 0);
        Session.due("nothing is left behind", s.handles(0), 1);
        Session.due("nothing was bound", s.x.process(0, 2), 0);
        sent = s.messages(0);
        Session.due("the beginning as M", s.bind(0, "/", "/b", 0), Session.NO_SUCH_ELEMENT);
        Session.due("walk without a name, walk, clunk M", s.messages(0) - sent, 3);
    }

    private static void full() {
        Session s = new Session().directories("/a", "/b", "/c", "/d", "/e").files("/f");
        for (String path : new String[] {"/a", "/b", "/c", "/d"}) {
            Session.due("place " + path, s.bind(0, "/e", path, 2), 2);
        }
        int sent = s.messages(0);
        int left = s.handles(0);
        Session.due("a fifth place", s.bind(0, "/a", "/e", 0), Session.ILLEGAL_STATE);
        Session.due("walk, walk, clunk the other, clunk M", s.messages(0) - sent, 4);
        s.dueBytes("M is the last", 0, 11, 0, 0, 0, 120, 1, 0, 9, 0, 0, 0);
        Session.due("the beginning as a fifth", s.bind(0, "/", "/", 1), Session.ILLEGAL_STATE);
        Session.due("a file is seen first", s.bind(0, "/a", "/f", 0), Session.UNSUPPORTED);
        Session.due("nothing is left behind", s.handles(0), left);
        Session.due("a third member", s.bind(0, "/e", "/a", 1), 3);
        Session.due("a fourth before", s.bind(0, "/e", "/a", 1), Session.ILLEGAL_STATE);
        Session.due("a fourth behind", s.bind(0, "/e", "/a", 6), Session.ILLEGAL_STATE);
        Session.due("nothing is left behind", s.handles(0), left + 1);
        Session.due("alone it may", s.bind(0, "/e", "/a", 0), 1);
        Session.due("members", s.x.process(0, 3), 7);
    }
}
