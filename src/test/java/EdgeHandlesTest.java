/** Boundary sentences of 'Terms' about handles and the beginning. */
public final class EdgeHandlesTest extends Edge {
    public static void main(String[] args) {
        sentence("each stands for a file, also when that is gone, or for nothing", EdgeHandlesTest::gone);
        sentence("A NEW one is the least that stands for nothing.", EdgeHandlesTest::least);
        sentence("A NEW one is the least that stands for nothing.", EdgeHandlesTest::perServer);
        sentence("A NEW one is the least that stands for nothing.", EdgeHandlesTest::asManyAsThereCanBe);
        sentence("At first each server has had one message: attach handle 0, which stays", EdgeHandlesTest::stays);
        sentence("THE BEGINNING, which is never clunked", EdgeHandlesTest::beginning);
        sentence("THE BEGINNING, which is never clunked", EdgeHandlesTest::beginningAsPlace);
        Session.end("edges of handles");
    }

    private static void gone() {
        Session s = new Session();
        s.file(0, "/a");
        s.open(0, "/a", 0);
        s.remove(0, "/a");
        due("two handles of a file that is gone, and the beginning", s.handles(0), 3);
        s.close(0, 0);
        due("one stands for nothing now", s.handles(0), 2);
        s.files("/a");
        due("the other still for the one that is gone", s.read(0, 1), ELEMENT);
        s.close(0, 1);
        due("the beginning is left", s.handles(0), 1);
    }

    private static void least() {
        Session s = new Session();
        s.files("/a");
        for (int i = 0; i < 4; i++) {
            s.open(0, "/", 0);
            s.dueLatest("open, one after the other", OPEN, i + 1);
        }
        s.close(0, 2);
        s.close(0, 1);
        s.stat(0, "/a");
        s.dueLatest("the least of two that are free", CLUNK, 2);
        s.open(0, "/", 0);
        s.dueLatest("the least again", OPEN, 2);
        s.open(0, "/", 0);
        s.dueLatest("then the other one", OPEN, 3);
        s.open(0, "/", 0);
        s.dueLatest("then one behind all", OPEN, 5);
        s.close(0, 0);
        s.stat(0, "/a");
        s.dueLatest("the first is free", CLUNK, 1);
    }

    private static void perServer() {
        Session s = new Session();
        s.open(0, "/", 0);
        s.open(0, "/", 0);
        s.mount(0, 1, "/", 0);
        s.dueLatest("the least of server 1, not of server 0", ATTACH, 1);
        s.mount(0, 0, "/", 2);
        s.dueLatest("the least of server 0", ATTACH, 3);
    }

    /* Four name spaces of twelve members and twenty open files of three handles. */
    private static void asManyAsThereCanBe() {
        Session s = new Session().directories("/a", "/b", "/c", "/d");
        for (String path : new String[] {"/a", "/b", "/c", "/d"}) {
            s.mount(0, 0, path, 1);
            due("three members at " + path, s.mount(0, 0, path, 1), 3);
        }
        for (int p = 1; p <= 3; p++) {
            due("a copy", s.fork(0, false), p);
            due("its members", s.x.process(p, 3), 12);
        }
        for (int p = 0; p <= 3; p++) {
            for (int i = 0; i < 5; i++) {
                due("open " + i, s.open(p, "/a", 0), i);
            }
        }
        due("the beginning, 48 members, 60 handles of files", s.handles(0), 109);
        due("one more is walked to", s.stat(3, "/d"), 9);
        s.dueLatest("it is what each opening walked to before the members' copies", CLUNK, 49);
        due("the other one, behind all, and M", s.mount(3, 0, "/a", 1), STATE);
        s.dueLatest("M was the first of them", CLUNK, 49);
        due("two names, the second behind all", s.stat(3, "/a/b"), 5);
        s.dueLatest("the second", CLUNK, 110);
        due("M, and again two names", s.bind(3, "/a/b", "/a/b", 0), 1);
        s.dueLatest("M is 110, the other one", CLUNK, 111);
        due("two members less", s.handles(0), 107);
        due("the last file is read", s.read(3, 4), 'a');
        s.dueLatest("by the first of its handles 107 .. 109", READ, 107);
        for (int p = 3; p > 0; p--) {
            s.mark();
            due("exit", s.exit(p), p);
            s.dueSent("fifteen handles and twelve members, of process 3 ten", p == 3 ? 25 : 27, 0);
        }
        due("process 0 has its own", s.handles(0), 28);
    }

    private static void stays() {
        Session s = new Session();
        for (int server = 0; server < 2; server++) {
            due("messages", s.x.server(server, 0), 1);
            due("handles", s.x.server(server, 1), 1);
        }
        s.mount(0, 1, "/", 4);
        s.dueLatest("a mounted root is another handle", ATTACH, 1);
        s.files("/a");
        s.remove(0, "/a");
        s.unmount(0, "/");
        s.dueHandles("all others are clunked", 1, 1);
        s.mount(0, 1, "/", 4);
        s.dueLatest("handle 0 still stands", ATTACH, 1);
    }

    private static void beginning() {
        Session s = new Session().files("/f");
        s.mark();
        due("stat", s.stat(0, "/"), 1);
        s.dueSent("stat alone", 1, 0);
        s.mark();
        due("a walk that fails at it", s.stat(0, "/a"), ELEMENT);
        s.dueSent("walk alone", 1, 0);
        s.mark();
        due("a walk on from it", s.stat(0, "/f"), 2);
        s.dueSent("walk, stat, clunk", 3, 0);
        s.mark();
        due("opening", s.open(0, "/", 0), 0);
        s.dueSent("walk, open", 2, 0);
        due("closing", s.close(0, 0), 0);
        s.dueLatest("closes another handle", CLUNK, 1);
        s.mark();
        due("it is no place", s.unmount(0, "/"), UNSUPPORTED);
        s.dueSent("nothing", 0, 0);
        s.mark();
        due("making at it", s.file(0, "/f"), UNSUPPORTED);
        s.dueSent("walk, create, clunk", 3, 0);
        s.dueHandles("it stands", 1, 1);
        due("it is found", s.stat(0, "/"), 1);
    }

    private static void beginningAsPlace() {
        Session s = new Session();
        s.mark();
        due("alone at it", s.mount(0, 1, "/", 4), 1);
        s.dueSent("attach alone", 0, 1);
        s.mark();
        due("alone at it again", s.mount(0, 1, "/", 0), 1);
        s.dueSent("attach, clunk of the member", 0, 2);
        s.mark();
        due("opening the place", s.open(0, "/", 0), 0);
        s.dueSent("walk, open", 0, 2);
        s.mark();
        due("no member may", s.file(0, "/a"), UNSUPPORTED);
        s.dueSent("nothing", 0, 0);
        s.mark();
        due("none has the name", s.stat(0, "/a"), ELEMENT);
        s.dueSent("walk of the member", 0, 1);
        s.mark();
        due("it is no place any more", s.unmount(0, "/"), 0);
        s.dueSent("clunk of the member", 0, 1);
        due("handle 0 stands", s.handles(0), 1);
    }
}
