/** The same boundary sentences where what is walked to, the place or M is of server 1: nothing goes to the wrong server. */
public final class EdgeOtherServerTest extends Edge {
    public static void main(String[] args) {
        sentence("then the handle where one was is clunked", EdgeOtherServerTest::walking);
        sentence("When none succeeds: that handle is clunked likewise", EdgeOtherServerTest::failing);
        sentence("If the file is a place: each member gets a WALK without a name to a new handle, in order, and then what was walked to is clunked", EdgeOtherServerTest::opening);
        sentence("those with an error are clunked right then", EdgeOtherServerTest::openingErrors);
        sentence("otherwise what was walked to, gets a WALK without a name to a new handle; what was walked to is clunked", EdgeOtherServerTest::creating);
        sentence("if no member may: UnsupportedOperationException, when it is clunked", EdgeOtherServerTest::noMemberMay);
        sentence("this is the new member M; UnsupportedOperationException if it is no directory", EdgeOtherServerTest::boundMember);
        sentence("a place that is new has then itself as the other member: the handle walked to", EdgeOtherServerTest::newPlace);
        sentence("of one that was there, first the members are clunked, with how % 4 = 0, then what was walked to last", EdgeOtherServerTest::oldPlace);
        sentence("Whenever something is thrown, what was walked to is clunked, the other one first, then M.", EdgeOtherServerTest::thrown);
        sentence("The place of the text's path goes: its members are clunked, in order, and what was walked to.", EdgeOtherServerTest::unmounting);
        sentence("each is a file (server and serial)", EdgeOtherServerTest::sameSerials);
        Session.end("edges of server 1");
    }

    /* /a is server 1's root, by its handle 1; there are /a/b, /a/b/c and the files /a/f and /a/b/g. */
    private static Session mounted() {
        Session s = new Session().directories("/a");
        s.mount(0, 1, "/a", 4);
        s.directories("/a/b", "/a/b/c").files("/a/f", "/a/b/g");
        return s;
    }

    private static void walking() {
        Session s = mounted();
        s.mark();
        due("two names there", s.stat(0, "/a/b/c"), 105);
        s.dueSent("walk, clunk, and walk, walk, clunk, stat, clunk", 2, 5);
        s.dueHandles("the member stays", 1, 2);
        due("removed", s.remove(0, "/a/b/c"), 2);
        s.dueHandles("the member stays", 1, 2);
    }

    private static void failing() {
        Session s = mounted();
        s.mark();
        due("no such file", s.stat(0, "/a/b/h"), ELEMENT);
        s.dueSent("walk, clunk, and walk, walk, clunk", 2, 3);
        s.dueLatest("where one was", CLUNK, 2);
        s.mark();
        due("below a file", s.stat(0, "/a/f/h"), UNSUPPORTED);
        s.dueSent("walk, clunk, and walk, walk, clunk", 2, 3);
        s.dueHandles("the member stays", 1, 2);
    }

    private static void opening() {
        Session s = mounted();
        s.mark();
        due("no place", s.open(0, "/a/b", 0), 0);
        s.dueSent("walk, clunk, and walk, open", 2, 2);
        s.close(0, 0);
        s.bind(0, "/a/b/c", "/a/b", 1);
        s.mark();
        due("a place", s.open(0, "/a/b", 0), 0);
        s.dueSent("walk, clunk, and walk, two walks, clunk, two opens", 2, 6);
        s.dueHandles("three members and two copies", 1, 6);
        due("M is empty, then itself", s.read(0, 0), 'c');
        due("and more of it", s.read(0, 0), 'g');
    }

    private static void openingErrors() {
        Session s = new Session().directories("/a", "/b", "/c").files("/c/h");
        s.bind(0, "/b", "/a", 0);
        s.mount(0, 1, "/a", 2);
        s.bind(0, "/c", "/a", 2);
        s.remove(0, "/b");
        s.mark();
        due("gone, server 1, server 0", s.open(0, "/a", 0), 0);
        s.dueSent("walk, two walks, clunk, open, clunk, open, and walk, open", 7, 2);
        s.mark();
        due("the last one's letter", s.read(0, 0), 'h');
        s.dueSent("a read each", 1, 1);
        s.mark();
        due("closed", s.close(0, 0), 0);
        s.dueSent("a clunk each", 1, 1);
        s.dueHandles("the members stay", 3, 2);
    }

    private static void creating() {
        Session s = mounted();
        s.mark();
        due("in a directory there", s.file(0, "/a/b/h"), 0);
        s.dueSent("walk, clunk, and walk, walk, clunk, create, open", 2, 5);
        s.dueHandles("the member and the file", 1, 3);
        s.mark();
        due("the name is taken", s.file(0, "/a/b/h"), UNSUPPORTED);
        s.dueSent("walk, clunk, and walk, walk, clunk, create, clunk", 2, 5);
        due("in a file there", s.file(0, "/a/f/h"), UNSUPPORTED);
        s.dueHandles("as before", 1, 3);
        due("server 0 has the root and /a", s.x.server(0, 2), 2);
    }

    private static void noMemberMay() {
        Session s = mounted();
        s.mount(0, 0, "/a/b", 0);
        s.mark();
        due("server 0's root is the only member", s.file(0, "/a/b/h"), UNSUPPORTED);
        s.dueSent("walk, clunk, and walk, clunk", 2, 2);
        s.dueHandles("members stay", 2, 2);
        s.mount(0, 0, "/a/b", 4);
        s.mark();
        due("now it may", s.file(0, "/a/b/h"), 0);
        s.dueSent("walk, clunk, walk, create, open, and walk, clunk", 5, 2);
        due("it is server 0's", s.stat(0, "/h"), 4);
    }

    private static void boundMember() {
        Session s = mounted();
        s.mark();
        due("no directory there", s.bind(0, "/a/f", "/", 0), UNSUPPORTED);
        s.dueSent("walk, clunk, and walk, clunk", 2, 2);
        s.dueHandles("nothing is left behind", 1, 2);
        s.mark();
        due("a directory there, before the beginning", s.bind(0, "/a/b", "/", 1), 2);
        s.dueSent("walk, clunk, walk without a name, and walk", 3, 1);
        due("M's", s.stat(0, "/g"), 108);
        due("the beginning's", s.stat(0, "/a"), 3);
        s.dueHandles("members", 2, 3);
    }

    private static void newPlace() {
        Session s = mounted();
        s.mark();
        due("the beginning before a directory there", s.bind(0, "/", "/a/b", 1), 2);
        s.dueSent("walk without a name, walk, clunk, and walk", 3, 1);
        due("itself is asked on its server", s.stat(0, "/a/b/g"), 108);
        due("M before it", s.stat(0, "/a/b/a"), 3);
        due("files are made in itself", s.file(0, "/a/b/h"), 0);
        due("on its server", s.stat(0, "/a/b/h"), 110);
        Session t = mounted();
        t.mark();
        due("alone", t.bind(0, "/", "/a/b", 0), 1);
        t.dueSent("walk without a name, walk, clunk, and walk, clunk", 3, 2);
        t.dueHandles("members", 2, 2);
    }

    private static void oldPlace() {
        Session s = mounted();
        s.mount(0, 0, "/a/b", 1);
        s.mark();
        due("a third", s.mount(0, 0, "/a/b", 2), 3);
        s.dueSent("attach, walk, clunk, and walk, clunk", 3, 2);
        s.mark();
        due("alone", s.mount(0, 0, "/a/b", 0), 1);
        s.dueSent("attach, walk, clunk, two clunks, and walk, clunk, clunk", 5, 3);
        s.dueLatest("what was walked to last", CLUNK, 3);
        s.dueHandles("members", 2, 2);
    }

    private static void thrown() {
        Session s = mounted();
        s.mark();
        due("the place is no directory", s.bind(0, "/a", "/a/f", 0), UNSUPPORTED);
        s.dueSent("walk, walk, clunk, clunk of M, and walk, clunk", 4, 2);
        s.dueLatest("M", CLUNK, 1);
        s.mark();
        due("M there, the place is no directory", s.bind(0, "/a/b", "/a/f", 0), UNSUPPORTED);
        s.dueSent("twice walk, clunk, and walk, walk, clunk, clunk of M", 4, 4);
        s.dueLatest("M", CLUNK, 2);
        s.mark();
        due("M there, the place is not found", s.bind(0, "/a/b", "/h", 0), ELEMENT);
        s.dueSent("walk, clunk, walk, and walk, clunk of M", 3, 2);
        s.mount(0, 1, "/a/b", 2);
        s.mount(0, 1, "/a/b", 2);
        s.mark();
        due("a fourth member", s.mount(0, 1, "/a/b", 2), STATE);
        s.dueSent("walk, clunk, and attach, walk, clunk, clunk of M", 2, 4);
        s.dueHandles("members", 1, 5);
    }

    private static void unmounting() {
        Session s = mounted();
        s.mark();
        due("no place there", s.unmount(0, "/a/b"), UNSUPPORTED);
        s.dueSent("walk, clunk, and walk, clunk", 2, 2);
        s.mount(0, 0, "/a/b", 0);
        s.mark();
        due("a place there", s.unmount(0, "/a/b"), 1);
        s.dueSent("walk, clunk, clunk of the member, and walk, clunk", 3, 2);
        s.dueLatest("what was walked to", CLUNK, 2);
        s.dueHandles("the member at /a", 1, 2);
        due("the place at /a", s.unmount(0, "/a"), 0);
        s.dueHandles("nothing", 1, 1);
    }

    /* /a (0, 1) is a place; /a/b (1, 1) is none, then the other way round. */
    private static void sameSerials() {
        Session s = mounted();
        s.mark();
        due("open of no place", s.open(0, "/a/b", 0), 0);
        s.dueSent("walk, clunk, and walk, open", 2, 2);
        due("its own files", s.read(0, 0), 'c');
        due("in it files may be made", s.file(0, "/a/b/h"), 1);
        due("no place", s.unmount(0, "/a/b"), UNSUPPORTED);
        due("a second place", s.mount(0, 0, "/a/b", 0), 1);
        due("the first as it was", s.stat(0, "/a/f"), 106);
        due("two", s.x.process(0, 2), 2);
        due("the first goes, and the second is not found", s.unmount(0, "/a"), 1);
        due("the first is no place any more", s.unmount(0, "/a"), UNSUPPORTED);
        s.mark();
        due("open of no place", s.open(0, "/a", 0), 2);
        s.dueSent("walk, open", 2, 0);
        due("files may be made in it", s.file(0, "/a/h"), 3);
        due("of server 0", s.stat(0, "/a/h"), 4);
    }
}
