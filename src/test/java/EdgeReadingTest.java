/** Boundary sentences of 'Terms' about reading on in an open file. */
public final class EdgeReadingTest extends Edge {
    public static void main(String[] args) {
        sentence("with a byte the place grows by 1", EdgeReadingTest::places);
        sentence("With nothing, or an error, and a next handle: on with that, from place 0, in the same call.", EdgeReadingTest::next);
        sentence("With nothing, or an error, and a next handle: on with that, from place 0, in the same call.", EdgeReadingTest::nextAfterErrors);
        sentence("With nothing, or an error, and a next handle: on with that, from place 0, in the same call.", EdgeReadingTest::neverBack);
        sentence("At the last one: nothing", EdgeReadingTest::last);
        sentence("if it is the only one that there ever was of it, with an error NoSuchElementException", EdgeReadingTest::onlyOne);
        sentence("if it is the only one that there ever was of it, with an error NoSuchElementException", EdgeReadingTest::oneOfSeveral);
        Session.end("edges of reading");
    }

    private static void duePlace(Session s, int handle, int place) {
        s.dueLatest("read", READ, handle);
        due("the place", s.x.wire(0, 11), place);
    }

    private static void places() {
        Session s = new Session();
        s.file(0, "/a");
        for (int i = 0; i < 8; i++) {
            s.write(0, 0, 10 + i);
        }
        s.open(0, "/a", 0);
        for (int i = 0; i < 8; i++) {
            due("byte " + i, s.read(0, 1), 10 + i);
            duePlace(s, 2, i);
        }
        due("nothing", s.read(0, 1), -1);
        duePlace(s, 2, 8);
        due("with nothing it does not grow", s.read(0, 1), -1);
        duePlace(s, 2, 8);
        s.remove(0, "/a");
        due("gone", s.read(0, 1), ELEMENT);
        due("with an error it does not grow", s.read(0, 1), ELEMENT);
        duePlace(s, 2, 8);
    }

    private static void next() {
        Session s = new Session().directories("/a", "/b", "/c");
        s.files("/b/f", "/b/g", "/c/h");
        s.bind(0, "/b", "/a", 0);
        s.bind(0, "/c", "/a", 2);
        s.open(0, "/a", 0);
        due("first of the first", s.read(0, 0), 'f');
        due("second of the first", s.read(0, 0), 'g');
        s.mark();
        due("first of the second", s.read(0, 0), 'h');
        s.dueSent("read of the first, read of the second", 2, 0);
        duePlace(s, 5, 0);
        s.mark();
        due("no more", s.read(0, 0), -1);
        s.dueSent("read of the second alone", 1, 0);
        duePlace(s, 5, 1);
        Session t = new Session().directories("/a", "/b", "/c", "/d").files("/d/h");
        t.bind(0, "/b", "/a", 0);
        t.bind(0, "/c", "/a", 2);
        t.bind(0, "/d", "/a", 2);
        t.open(0, "/a", 0);
        t.mark();
        due("over two empty ones", t.read(0, 0), 'h');
        t.dueSent("three reads", 3, 0);
    }

    private static void nextAfterErrors() {
        Session s = new Session().directories("/a", "/b", "/c", "/d").files("/d/h");
        s.bind(0, "/b", "/a", 0);
        s.bind(0, "/c", "/a", 2);
        s.bind(0, "/d", "/a", 2);
        s.open(0, "/a", 0);
        s.open(0, "/a", 0);
        s.remove(0, "/b");
        s.mark();
        due("an error, then nothing, then a letter", s.read(0, 0), 'h');
        s.dueSent("three reads", 3, 0);
        s.remove(0, "/c");
        s.mark();
        due("two errors, then a letter", s.read(0, 1), 'h');
        s.dueSent("three reads", 3, 0);
    }

    private static void neverBack() {
        Session s = new Session().directories("/a", "/b", "/c");
        s.bind(0, "/b", "/a", 0);
        s.bind(0, "/c", "/a", 2);
        s.open(0, "/a", 0);
        due("both are empty", s.read(0, 0), -1);
        s.files("/b/h");
        s.mark();
        due("the first is left behind", s.read(0, 0), -1);
        s.dueSent("one read", 1, 0);
        s.files("/c/g");
        due("the last goes on", s.read(0, 0), 'g');
        due("one opened now begins with the first", s.open(0, "/a", 0), 1);
        due("its letter", s.read(0, 1), 'h');
    }

    private static void last() {
        Session s = new Session().directories("/a").files("/f");
        s.open(0, "/f", 0);
        s.mark();
        due("of one", s.read(0, 0), -1);
        due("again", s.read(0, 0), -1);
        s.dueSent("each reads", 2, 0);
        s.mount(0, 1, "/a", 2);
        s.open(0, "/a", 0);
        s.mark();
        due("of two", s.read(0, 1), -1);
        s.dueSent("both are read", 1, 1);
        s.mark();
        due("again", s.read(0, 1), -1);
        s.dueSent("the last is read", 0, 1);
    }

    private static void onlyOne() {
        Session s = new Session().directories("/a", "/b");
        s.file(0, "/f");
        s.open(0, "/f", 0);
        s.open(0, "/b", 0);
        s.directory(0, "/c");
        s.bind(0, "/b", "/a", 0);
        s.open(0, "/a", 0);
        for (String path : new String[] {"/f", "/b", "/c"}) {
            s.remove(0, path);
        }
        due("made", s.read(0, 0), ELEMENT);
        due("opened", s.read(0, 1), ELEMENT);
        due("a directory", s.read(0, 2), ELEMENT);
        due("a directory that was made", s.read(0, 3), ELEMENT);
        due("of a place's only member", s.read(0, 4), ELEMENT);
        due("all are still open", s.x.process(0, 1), 5);
    }

    private static void oneOfSeveral() {
        Session s = new Session().directories("/a", "/b", "/c");
        s.bind(0, "/b", "/a", 0);
        s.bind(0, "/c", "/a", 2);
        s.open(0, "/a", 0);
        s.open(0, "/a", 0);
        s.read(0, 1);
        s.remove(0, "/b");
        s.remove(0, "/c");
        s.mark();
        due("errors at both of two", s.read(0, 0), -1);
        s.dueSent("both are read", 2, 0);
        s.dueError("of the last", 'n');
        due("an error at the last of two", s.read(0, 0), -1);
        due("an error at the last of two, read to it before", s.read(0, 1), -1);
        Session t = new Session().directories("/a", "/b", "/c");
        t.bind(0, "/b", "/a", 0);
        t.bind(0, "/c", "/a", 2);
        t.remove(0, "/b");
        due("one had an error when it was opened", t.open(0, "/a", 0), 0);
        t.remove(0, "/c");
        due("so there were two", t.read(0, 0), -1);
        t.dueError("of the one that is left", 'n');
    }
}
