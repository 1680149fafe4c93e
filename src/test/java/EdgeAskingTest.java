/** Boundary sentences of promises 16 to 18: wire, server, process. */
public final class EdgeAskingTest extends Edge {
    private static final int[] BEYOND = {Integer.MIN_VALUE, -256, -2, 64, 255, 256, Integer.MAX_VALUE};

    public static void main(String[] args) {
        sentence("Byte i of the latest message to a server (which = 0), or of its reply (1)", EdgeAskingTest::latest);
        sentence("how many it has for i = -1", EdgeAskingTest::lengths);
        sentence("-1 when there is no such byte", EdgeAskingTest::noSuchByte);
        sentence("Of a server: 0 the messages, 1 the handles that stand for something, 2 the files, 3 the next serial.", EdgeAskingTest::servers);
        sentence("-1 for any other numbers", EdgeAskingTest::noSuchServer);
        sentence("Of process p: 0 whether it is there (1 or 0), 1 how many files it has open", EdgeAskingTest::thereAndOpen);
        sentence("2 the places of its name space (0 when it is not there), 3 the members of them all", EdgeAskingTest::placesAndMembers);
        sentence("-1 for any other numbers", EdgeAskingTest::noSuchProcess);
        Session.end("edges of wire, server and process");
    }

    private static void latest() {
        Session s = new Session();
        s.mount(0, 1, "/", 0);
        s.dueBytes("to server 1", 0, 11, 0, 0, 0, 104, 1, 0, 1, 0, 0, 0);
        s.stat(0, "/");
        s.dueBytes("to server 0", 0, 11, 0, 0, 0, 124, 1, 0, 0, 0, 0, 0);
        s.dueBytes("its reply", 1, 16, 0, 0, 0, 125, 1, 0, 1, 0, 0, 0, 0, 0, 0, 0, 0);
        s.stat(0, "/a");
        s.dueLatest("to server 1 again", WALK, 1);
        s.dueError("its reply", 'n');
        s.open(0, "/", 3);
        s.read(0, 0);
        s.fork(4, true);
        s.dueLatest("calls that send nothing leave it", WALK, 1);
        s.x.server(0, 0);
        s.x.process(0, 0);
        s.dueError("asking leaves it", 'n');
    }

    private static void lengths() {
        Session s = new Session();
        due("attach", s.x.wire(0, -1), 11);
        due("its reply", s.x.wire(1, -1), 16);
        s.stat(0, "/a");
        due("walk with a name, the longest", s.x.wire(0, -1), 20);
        due("an error", s.x.wire(1, -1), 10);
        s.file(0, "/a");
        due("open", s.x.wire(0, -1), 12);
        due("its reply", s.x.wire(1, -1), 16);
        s.read(0, 0);
        due("read", s.x.wire(0, -1), 15);
        due("its reply, with nothing", s.x.wire(1, -1), 9);
        s.write(0, 0, 1);
        due("write", s.x.wire(0, -1), 16);
        due("its reply", s.x.wire(1, -1), 11);
        s.close(0, 0);
        due("clunk", s.x.wire(0, -1), 11);
        due("its reply, the shortest", s.x.wire(1, -1), 7);
        s.bind(0, "/", "/", 0);
        due("walk without a name", s.x.wire(0, -1), 17);
        due("its reply", s.x.wire(1, -1), 7);
    }

    private static void noSuchByte() {
        Session s = new Session();
        s.stat(0, "/h");
        due("the first byte", s.x.wire(0, 0), 20);
        due("the last byte", s.x.wire(0, 19), 'h');
        due("the byte behind it", s.x.wire(0, 20), -1);
        due("the last byte of the reply", s.x.wire(1, 9), 'n');
        due("the byte behind it", s.x.wire(1, 10), -1);
        s.file(0, "/h");
        s.close(0, 0);
        due("a longer message before does not show", s.x.wire(0, 11), -1);
        due("a longer reply before does not show", s.x.wire(1, 7), -1);
        for (int i : BEYOND) {
            due("byte " + i, s.x.wire(0, i), -1);
            due("byte " + i + " of the reply", s.x.wire(1, i), -1);
        }
        for (int which : new int[] {-1, 2, 3, Integer.MIN_VALUE, Integer.MAX_VALUE}) {
            due("neither message nor reply: " + which, s.x.wire(which, 0), -1);
            due("neither message nor reply: " + which, s.x.wire(which, -1), -1);
        }
    }

    private static void servers() {
        Session s = new Session().directories("/a");
        due("messages: attach, walk, create, open, clunk", s.x.server(0, 0), 5);
        due("handles", s.x.server(0, 1), 1);
        due("files", s.x.server(0, 2), 2);
        due("next serial", s.x.server(0, 3), 2);
        s.open(0, "/a", 0);
        s.remove(0, "/a");
        due("a handle of one that is gone", s.x.server(0, 1), 2);
        due("one that is gone is none of the files", s.x.server(0, 2), 1);
        due("the next serial stays", s.x.server(0, 3), 2);
        due("messages that fail count", s.stat(0, "/h"), ELEMENT);
        due("walk, open, walk, remove, walk", s.x.server(0, 0), 10);
        for (int what = 0; what <= 3; what++) {
            due("server 1 is as it was", s.x.server(1, what), 1);
        }
    }

    private static void noSuchServer() {
        Session s = new Session();
        for (int what = -1; what <= 4; what++) {
            for (int server : new int[] {-1, 2, 3, Integer.MIN_VALUE, Integer.MAX_VALUE}) {
                due("server " + server, s.x.server(server, what), -1);
            }
        }
        for (int server = 0; server <= 1; server++) {
            for (int what : new int[] {-1, 4, 5, Integer.MIN_VALUE, Integer.MAX_VALUE}) {
                due("what " + what, s.x.server(server, what), -1);
            }
        }
    }

    private static void thereAndOpen() {
        Session s = new Session();
        due("not there", s.x.process(1, 0), 0);
        due("nothing open", s.x.process(1, 1), 0);
        s.fork(0, true);
        due("there", s.x.process(1, 0), 1);
        for (int i = 0; i < 5; i++) {
            due("open", s.x.process(1, 1), i);
            s.open(1, "/", 0);
        }
        due("five", s.x.process(1, 1), 5);
        due("the other one has none", s.x.process(0, 1), 0);
        s.open(1, "/", 0);
        due("still five", s.x.process(1, 1), 5);
        s.exit(1);
        due("not there any more", s.x.process(1, 0), 0);
        due("nothing open", s.x.process(1, 1), 0);
    }

    private static void placesAndMembers() {
        Session s = new Session().directories("/a", "/b", "/c", "/d");
        int members = 0;
        for (char c = 'a'; c <= 'd'; c++) {
            for (int how = 0; how <= 2; how++) {
                due("members", s.x.process(0, 3), members);
                s.mount(0, 1, "/" + c, how);
                members++;
            }
            due("places", s.x.process(0, 2), c - 'a' + 1);
        }
        due("twelve", s.x.process(0, 3), 12);
        s.fork(0, false);
        s.unmount(0, "/b");
        due("three less", s.x.process(0, 3), 9);
        due("not of the copy", s.x.process(1, 3), 12);
        due("nor a place", s.x.process(1, 2), 4);
        s.exit(1);
        due("not there: no places", s.x.process(1, 2), 0);
        due("not there: no members", s.x.process(1, 3), 0);
    }

    private static void noSuchProcess() {
        Session s = new Session();
        for (int what = -1; what <= 4; what++) {
            for (int p : NO_PROCESSES) {
                due("process " + p, s.x.process(p, what), -1);
            }
        }
        for (int p = 0; p <= 3; p++) {
            for (int what : new int[] {-1, 4, 5, Integer.MIN_VALUE, Integer.MAX_VALUE}) {
                due("what " + what, s.x.process(p, what), -1);
            }
        }
    }
}
