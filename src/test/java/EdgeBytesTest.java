/** The sentences of 'Terms' about the bytes of messages and replies; CREATE is never the latest message. */
public final class EdgeBytesTest extends Edge {
    public static void main(String[] args) {
        sentence("how many it has (4 bytes, the lowest first, as in all numbers), type (1), tag (2, always 1)", EdgeBytesTest::heads);
        sentence("and then: the handle (4)", EdgeBytesTest::handleAlone);
        sentence("of a walk also the new handle (4), how many names (2), and for a name its length (2, 1) and letter", EdgeBytesTest::walks);
        sentence("of open the mode (1)", EdgeBytesTest::opens);
        sentence("of read the place (4)", EdgeBytesTest::reads);
        sentence("of write the place (4) and the byte", EdgeBytesTest::writes);
        sentence("an error has a length (2, 1) and its letter", EdgeBytesTest::errors);
        sentence("of the file 1 for a directory, else 0 (1), version (4), serial (4)", EdgeBytesTest::files);
        sentence("read: how many bytes (2) and them", EdgeBytesTest::readReplies);
        sentence("write: how many bytes the file has then (4)", EdgeBytesTest::writeReplies);
        sentence("the others nothing more", EdgeBytesTest::bareReplies);
        Session.end("edges of bytes");
    }

    private static void heads() {
        Session s = new Session();
        for (int i = 0; i < 4; i++) {
            s.stat(0, "/h");
            dueHead(s, 0, 20, 110);
            dueHead(s, 1, 10, 107);
            s.stat(0, "/");
            dueHead(s, 0, 11, 124);
            dueHead(s, 1, 16, 125);
        }
    }

    private static void dueHead(Session s, int which, int length, int type) {
        due("how many", s.x.wire(which, -1), length);
        int[] head = {length, 0, 0, 0, type, 1, 0};
        for (int i = 0; i < head.length; i++) {
            due("byte " + i + " of a head", s.x.wire(which, i), head[i]);
        }
        due("there is no byte behind all", s.x.wire(which, length), -1);
    }

    private static void handleAlone() {
        Session s = new Session().files("/a");
        s.open(0, "/", 0);
        s.mount(0, 0, "/", 0);
        s.dueBytes("attach", 0, 11, 0, 0, 0, 104, 1, 0, 2, 0, 0, 0);
        s.stat(0, "/a");
        s.dueBytes("clunk", 0, 11, 0, 0, 0, 120, 1, 0, 3, 0, 0, 0);
        s.remove(0, "/a");
        s.dueBytes("remove", 0, 11, 0, 0, 0, 122, 1, 0, 3, 0, 0, 0);
        s.stat(0, "/");
        s.dueBytes("stat", 0, 11, 0, 0, 0, 124, 1, 0, 0, 0, 0, 0);
    }

    private static void walks() {
        Session s = new Session().directories("/a");
        s.stat(0, "/h");
        s.dueBytes("with a name, refused", 0, 20, 0, 0, 0, 110, 1, 0, 0, 0, 0, 0, 1, 0, 0, 0, 1, 0, 1, 0, 104);
        s.mount(0, 0, "/a", 1);
        s.dueBytes("with a name", 0, 20, 0, 0, 0, 110, 1, 0, 0, 0, 0, 0, 2, 0, 0, 0, 1, 0, 1, 0, 97);
        s.bind(0, "/", "/", 0);
        s.dueBytes("without a name", 0, 17, 0, 0, 0, 110, 1, 0, 0, 0, 0, 0, 3, 0, 0, 0, 0, 0);
        s.fork(0, false);
        s.dueBytes("of another handle", 0, 17, 0, 0, 0, 110, 1, 0, 3, 0, 0, 0, 6, 0, 0, 0, 0, 0);
    }

    private static void opens() {
        Session s = new Session().files("/a");
        for (int mode = 0; mode <= 2; mode++) {
            s.open(0, "/a", mode);
            s.dueBytes("mode " + mode, 0, 12, 0, 0, 0, 112, 1, 0, 1 + mode, 0, 0, 0, mode);
        }
        s.file(0, "/b");
        s.dueBytes("of a file that was made", 0, 12, 0, 0, 0, 112, 1, 0, 4, 0, 0, 0, 2);
        s.directory(0, "/c");
        s.dueBytes("of a directory that was made", 0, 12, 0, 0, 0, 112, 1, 0, 5, 0, 0, 0, 0);
    }

    private static void reads() {
        Session s = new Session().files("/a", "/b");
        s.open(0, "/", 0);
        for (int place = 0; place <= 2; place++) {
            s.read(0, 0);
            s.dueBytes("place " + place, 0, 15, 0, 0, 0, 116, 1, 0, 1, 0, 0, 0, place, 0, 0, 0);
        }
    }

    private static void writes() {
        Session s = new Session();
        s.file(0, "/a");
        int[] bytes = {0, 255, 128, 127};
        for (int place = 0; place < bytes.length; place++) {
            s.write(0, 0, bytes[place]);
            s.dueBytes("place " + place, 0, 16, 0, 0, 0, 118, 1, 0, 1, 0, 0, 0, place, 0, 0, 0, bytes[place]);
        }
    }

    private static void errors() {
        Session s = new Session().directories("/d").files("/d/f");
        s.stat(0, "/a");
        s.dueBytes("n", 1, 10, 0, 0, 0, 107, 1, 0, 1, 0, 110);
        s.remove(0, "/d");
        s.dueBytes("p", 1, 10, 0, 0, 0, 107, 1, 0, 1, 0, 112);
        s.open(0, "/d/f", 1);
        for (int i = 0; i < 9; i++) {
            s.write(0, 0, i);
        }
        s.dueBytes("f", 1, 10, 0, 0, 0, 107, 1, 0, 1, 0, 102);
    }

    private static void files() {
        Session s = new Session();
        s.dueBytes("attach", 1, 16, 0, 0, 0, 105, 1, 0, 1, 0, 0, 0, 0, 0, 0, 0, 0);
        s.stat(0, "/");
        s.dueBytes("stat", 1, 16, 0, 0, 0, 125, 1, 0, 1, 0, 0, 0, 0, 0, 0, 0, 0);
        s.files("/a").directories("/b");
        s.open(0, "/a", 1);
        s.dueBytes("open of a file", 1, 16, 0, 0, 0, 113, 1, 0, 0, 0, 0, 0, 0, 1, 0, 0, 0);
        s.write(0, 0, 1);
        s.open(0, "/a", 1);
        s.dueBytes("open of a file with a byte", 1, 16, 0, 0, 0, 113, 1, 0, 0, 1, 0, 0, 0, 1, 0, 0, 0);
        s.open(0, "/b", 0);
        s.dueBytes("open of a directory", 1, 16, 0, 0, 0, 113, 1, 0, 1, 0, 0, 0, 0, 2, 0, 0, 0);
        s.mount(0, 1, "/b", 2);
        s.dueBytes("walk with a name", 1, 16, 0, 0, 0, 111, 1, 0, 1, 0, 0, 0, 0, 2, 0, 0, 0);
    }

    private static void readReplies() {
        Session s = new Session();
        s.file(0, "/a");
        s.write(0, 0, 255);
        s.write(0, 0, 0);
        s.open(0, "/a", 0);
        s.read(0, 1);
        s.dueBytes("the highest byte", 1, 10, 0, 0, 0, 117, 1, 0, 1, 0, 255);
        s.read(0, 1);
        s.dueBytes("the lowest byte", 1, 10, 0, 0, 0, 117, 1, 0, 1, 0, 0);
        s.read(0, 1);
        s.dueBytes("none", 1, 9, 0, 0, 0, 117, 1, 0, 0, 0);
    }

    private static void writeReplies() {
        Session s = new Session();
        s.file(0, "/a");
        for (int i = 1; i <= 8; i++) {
            s.write(0, 0, i);
            s.dueBytes("bytes " + i, 1, 11, 0, 0, 0, 119, 1, 0, i, 0, 0, 0);
        }
        s.open(0, "/a", 1);
        s.write(0, 1, 9);
        s.dueBytes("in place of one", 1, 11, 0, 0, 0, 119, 1, 0, 8, 0, 0, 0);
    }

    private static void bareReplies() {
        Session s = new Session().files("/a");
        s.stat(0, "/a");
        s.dueBytes("clunk", 1, 7, 0, 0, 0, 121, 1, 0);
        s.remove(0, "/a");
        s.dueBytes("remove", 1, 7, 0, 0, 0, 123, 1, 0);
        s.bind(0, "/", "/", 0);
        s.dueBytes("walk without a name", 1, 7, 0, 0, 0, 111, 1, 0);
    }
}
