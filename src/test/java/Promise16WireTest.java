public final class Promise16WireTest {
    public static void main(String[] args) {
        Session s = new Session();
        Session.due("how many of the message", s.x.wire(0, -1), 11);
        Session.due("how many of the reply", s.x.wire(1, -1), 16);
        for (int which : new int[] {-1, 2, Integer.MIN_VALUE, Integer.MAX_VALUE}) {
            Session.due("neither", s.x.wire(which, 0), -1);
            Session.due("neither has bytes", s.x.wire(which, -1), -1);
        }
        for (int i : new int[] {-2, 11, 16, 20, Integer.MIN_VALUE, Integer.MAX_VALUE}) {
            Session.due("no byte " + i, s.x.wire(0, i), -1);
        }
        Session.due("the last byte", s.x.wire(0, 10), 0);
        Session.due("the last byte of the reply", s.x.wire(1, 15), 0);
        Session.due("no byte of the reply", s.x.wire(1, 16), -1);
        everyMessage();
        Session.end("promise 16");
    }

    private static void everyMessage() {
        Session s = new Session().directories("/a");
        Session.due("a file is made again", s.file(0, "/a"), Session.UNSUPPORTED);
        s.dueBytes("clunk", 0, 11, 0, 0, 0, 120, 1, 0, 1, 0, 0, 0);
        s.stat(0, "/b");
        s.dueBytes("walk with a name", 0, 20, 0, 0, 0, 110, 1, 0, 0, 0, 0, 0, 1, 0, 0, 0, 1, 0, 1, 0, 98);
        s.dueBytes("error", 1, 10, 0, 0, 0, 107, 1, 0, 1, 0, 110);
        s.mount(0, 1, "/", 0);
        s.dueBytes("attach to the other server", 0, 11, 0, 0, 0, 104, 1, 0, 1, 0, 0, 0);
        s.fork(0, false);
        s.dueBytes("walk without a name there", 0, 17, 0, 0, 0, 110, 1, 0, 1, 0, 0, 0, 2, 0, 0, 0, 0, 0);
        s.dueBytes("its reply", 1, 7, 0, 0, 0, 111, 1, 0);
        s.stat(0, "/");
        s.dueBytes("stat of the first server", 0, 11, 0, 0, 0, 124, 1, 0, 0, 0, 0, 0);
        int messages = s.messages(0) + s.messages(1);
        for (int i = -1; i < 20; i++) {
            s.x.wire(0, i);
        }
        Session.due("asking sends nothing", s.messages(0) + s.messages(1), messages);
        walkReply();
    }

    private static void walkReply() {
        Session s = new Session();
        s.file(0, "/a");
        for (int i = 0; i < 3; i++) {
            s.write(0, 0, i);
        }
        s.stat(0, "/a");
        s.dueBytes("a reply without more", 1, 7, 0, 0, 0, 121, 1, 0);
        s.bind(0, "/", "/", 0);
        s.dueBytes("a walk without a name", 1, 7, 0, 0, 0, 111, 1, 0);
        s.open(0, "/a", 2);
        s.dueBytes("the file's version and serial", 1, 16, 0, 0, 0, 113, 1, 0, 0, 3, 0, 0, 0, 1, 0, 0, 0);
    }
}
