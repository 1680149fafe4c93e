/** Boundary sentences of 'Terms' about servers and their files. */
public final class EdgeFilesTest extends Edge {
    public static void main(String[] args) {
        sentence("SERVERS 0, 1 keep FILES, each at most 20", EdgeFilesTest::twentyFiles);
        sentence("the first is the root, a directory", EdgeFilesTest::root);
        sentence("the root 0; then 1, 2, .. in the order of making, per server", EdgeFilesTest::serials);
        sentence("a letter a .. h as NAME", EdgeFilesTest::letters);
        sentence("a directory in which it is", EdgeFilesTest::sameNames);
        sentence("has at most 8 BYTES", EdgeFilesTest::eightBytes);
        sentence("a VERSION: how many bytes were ever written to it", EdgeFilesTest::versions);
        sentence("a VERSION: how many bytes were ever written to it", EdgeFilesTest::versionBeyondAByte);
        sentence("A removed file is GONE: its serial is not used again.", EdgeFilesTest::gone);
        Session.end("edges of files");
    }

    private static void twentyFiles() {
        Session s = new Session();
        fill(s);
        fullServer(s, 0);
        Session t = new Session();
        t.mount(0, 1, "/", 4);
        fill(t);
        fullServer(t, 1);
    }

    private static void fullServer(Session s, int server) {
        due("files with the root", s.x.server(server, 2), 20);
        due("the other server has its own", s.x.server(1 - server, 2), 1);
        due("one more", s.file(0, "/b/d"), STATE);
        due("one more directory", s.directory(0, "/c/a"), STATE);
        due("still twenty", s.x.server(server, 2), 20);
        due("the refused ones took no serial", s.x.server(server, 3), 20);
        due("open the last", s.open(0, "/b/c", 0), 0);
        due("remove it", s.remove(0, "/b/c"), 19);
        due("one that is gone is none of the twenty, open or not", s.x.server(server, 2), 19);
        due("there is room for one", s.directory(0, "/b/d"), 1);
        due("twenty again", s.x.server(server, 2), 20);
        due("and no more", s.file(0, "/b/e"), STATE);
    }

    private static void root() {
        Session s = new Session();
        due("the root of server 0", s.stat(0, "/"), 1);
        due("files of server 0", s.x.server(0, 2), 1);
        due("files of server 1", s.x.server(1, 2), 1);
        s.mount(0, 1, "/", 4);
        s.dueBytes("the root of server 1", 1, 16, 0, 0, 0, 105, 1, 0, 1, 0, 0, 0, 0, 0, 0, 0, 0);
    }

    private static void serials() {
        Session s = new Session();
        s.directories("/b", "/a");
        due("the first made", s.stat(0, "/b"), 3);
        due("the second made", s.stat(0, "/a"), 5);
        s.mount(0, 1, "/a", 4);
        s.files("/a/h");
        due("the first of server 1", s.stat(0, "/a/h"), 102);
        s.files("/b/c");
        due("the third of server 0", s.stat(0, "/b/c"), 6);
        s.files("/a/g");
        due("the second of server 1", s.stat(0, "/a/g"), 104);
        due("next of server 0", s.x.server(0, 3), 4);
        due("next of server 1", s.x.server(1, 3), 3);
        due("a name that is taken", s.file(0, "/b/c"), UNSUPPORTED);
        due("takes no serial", s.x.server(0, 3), 4);
    }

    private static void letters() {
        Session s = new Session();
        for (char c = 'h'; c >= 'a'; c--) {
            due("make " + c, s.file(0, "/" + c), 0);
            s.close(0, 0);
        }
        s.open(0, "/", 0);
        for (char c = 'h'; c >= 'a'; c--) {
            due("in the order of making", s.read(0, 0), c);
        }
        due("no more than eight", s.read(0, 0), -1);
        due("before a", s.file(0, "/`"), ARGUMENT);
        due("behind h", s.file(0, "/i"), ARGUMENT);
        due("nine files with the root", s.x.server(0, 2), 9);
    }

    private static void sameNames() {
        Session s = new Session().directories("/a", "/b", "/a/a").files("/b/a", "/a/a/a");
        due("the directory", s.stat(0, "/a"), 3);
        due("the one in it", s.stat(0, "/a/a"), 7);
        due("the one in another", s.stat(0, "/b/a"), 8);
        due("the one in that in it", s.stat(0, "/a/a/a"), 10);
        s.mount(0, 1, "/b", 4);
        s.files("/b/a");
        due("the one on the other server", s.stat(0, "/b/a"), 102);
        s.open(0, "/a", 0);
        due("one is in it", s.read(0, 0), 'a');
        due("and no other", s.read(0, 0), -1);
        due("one of them goes", s.remove(0, "/a/a/a"), 5);
        due("the others stay", s.stat(0, "/a/a"), 7);
    }

    private static void eightBytes() {
        Session s = new Session();
        s.file(0, "/a");
        s.file(0, "/b");
        for (int i = 1; i <= 8; i++) {
            due("byte " + i, s.write(0, 0, i), i);
        }
        due("a ninth", s.write(0, 0, 9), STATE);
        due("a ninth again", s.write(0, 0, 9), STATE);
        for (int i = 1; i <= 8; i++) {
            due("the other file has eight of its own", s.write(0, 1, 10 * i), i);
        }
        due("and no ninth", s.write(0, 1, 9), STATE);
        s.open(0, "/a", 0);
        for (int i = 1; i <= 8; i++) {
            due("byte " + i + " is as written", s.read(0, 2), i);
        }
        due("there is no ninth", s.read(0, 2), -1);
    }

    private static void versions() {
        Session s = new Session();
        s.directory(0, "/d");
        s.file(0, "/d/a");
        s.open(0, "/d/a", 1);
        dueVersion(s, 0);
        s.write(0, 1, 5);
        s.write(0, 2, 6);
        s.open(0, "/d/a", 1);
        dueVersion(s, 2);
        for (int i = 0; i < 9; i++) {
            s.write(0, 3, i);
        }
        s.close(0, 3);
        s.open(0, "/d/a", 0);
        dueVersion(s, 10);
        s.read(0, 3);
        s.close(0, 3);
        s.open(0, "/d", 0);
        due("making and writing files in a directory writes nothing to it", s.x.wire(1, 8), 0);
        s.close(0, 3);
        s.files("/d/b");
        s.open(0, "/d/b", 0);
        dueVersion(s, 0);
    }

    private static void dueVersion(Session s, int version) {
        due("the version in the reply to open", s.x.wire(1, 8), version);
    }

    /* 4 bytes, the lowest first: 255 is the last that one byte holds. */
    private static void versionBeyondAByte() {
        Session s = new Session();
        s.files("/a");
        for (int round = 0; round < 32; round++) {
            s.open(0, "/a", 2);
            for (int i = 0; i < 8; i++) {
                s.write(0, 0, i);
            }
            s.close(0, 0);
        }
        s.open(0, "/a", 2);
        s.dueBytes("256 written", 1, 16, 0, 0, 0, 113, 1, 0, 0, 0, 1, 0, 0, 1, 0, 0, 0);
        s.write(0, 0, 1);
        s.open(0, "/a", 0);
        s.dueBytes("257 written", 1, 16, 0, 0, 0, 113, 1, 0, 0, 1, 1, 0, 0, 1, 0, 0, 0);
    }

    private static void gone() {
        Session s = new Session();
        for (int i = 1; i <= 55; i++) {
            s.directory(0, "/a");
            s.close(0, 0);
            due("the serial of the one removed", s.remove(0, "/a"), i);
        }
        due("the root is left", s.x.server(0, 2), 1);
        due("next serial", s.x.server(0, 3), 56);
        s.file(0, "/a");
        due("a serial above 49 counts on beyond 100", s.stat(0, "/a"), 112);
    }
}
