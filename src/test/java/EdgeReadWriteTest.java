/** Boundary sentences of promises 6 to 8: read, write, close. */
public final class EdgeReadWriteTest extends Edge {
    private static final int[] NO_FILES = {-1, 5, 6, Integer.MIN_VALUE, Integer.MAX_VALUE};

    public static void main(String[] args) {
        sentence("the byte or letter; -1 when there is nothing more", EdgeReadWriteTest::readAll);
        sentence("Throws IllegalArgumentException when there is no such process or open file", EdgeReadWriteTest::readWrong);
        sentence("UnsupportedOperationException when its mode is 1 (nothing is sent)", EdgeReadWriteTest::readModes);
        sentence("Process p writes a byte (0 .. 255)", EdgeReadWriteTest::writeBytes);
        sentence("at the place where an open file is, which grows by 1 (reading and writing have the same)", EdgeReadWriteTest::samePlace);
        sentence("Throws IllegalArgumentException likewise, or for another byte", EdgeReadWriteTest::writeWrong);
        sentence("UnsupportedOperationException when its mode is 0 (nothing is sent)", EdgeReadWriteTest::writeModes);
        sentence("NoSuchElementException (n), IllegalStateException (f)", EdgeReadWriteTest::writeRefused);
        sentence("Process p closes an open file: its handles are clunked.", EdgeReadWriteTest::closeHandles);
        sentence("How many it has open then.", EdgeReadWriteTest::closeCounts);
        sentence("Throws IllegalArgumentException when there is none such.", EdgeReadWriteTest::closeWrong);
        Session.end("edges of read, write and close");
    }

    private static void readAll() {
        Session s = new Session();
        s.file(0, "/a");
        due("nothing at all", s.read(0, 0), -1);
        int[] bytes = {0, 255, 128, 127, 1, 254, 97, 10};
        for (int b : bytes) {
            s.write(0, 0, b);
        }
        s.open(0, "/a", 0);
        for (int b : bytes) {
            due("a byte as it was written", s.read(0, 1), b);
        }
        for (int i = 0; i < 3; i++) {
            due("nothing more", s.read(0, 1), -1);
        }
        s.open(0, "/", 0);
        due("a letter", s.read(0, 2), 'a');
        due("no more letters", s.read(0, 2), -1);
    }

    private static void readWrong() {
        Session s = new Session().files("/a");
        s.open(0, "/a", 0);
        s.fork(0, true);
        for (int p : NO_PROCESSES) {
            due("process " + p, s.read(p, 0), ARGUMENT);
        }
        due("a process that is not there", s.read(3, 0), ARGUMENT);
        due("another process's file", s.read(1, 0), ARGUMENT);
        for (int file : NO_FILES) {
            due("file " + file, s.read(0, file), ARGUMENT);
        }
        for (int file = 1; file <= 4; file++) {
            due("file " + file + " is not open", s.read(0, file), ARGUMENT);
        }
        s.close(0, 0);
        due("a file that was closed", s.read(0, 0), ARGUMENT);
    }

    private static void readModes() {
        Session s = new Session();
        s.file(0, "/a");
        s.write(0, 0, 5);
        for (int mode = 0; mode <= 2; mode++) {
            s.open(0, "/a", mode);
        }
        s.mark();
        due("mode 1", s.read(0, 2), UNSUPPORTED);
        s.dueSent("nothing", 0, 0);
        due("mode 0", s.read(0, 1), 5);
        due("mode 2", s.read(0, 3), 5);
        due("its place did not grow", s.write(0, 2, 6), 1);
        s.remove(0, "/a");
        s.mark();
        due("mode 1, gone", s.read(0, 2), UNSUPPORTED);
        s.dueSent("nothing", 0, 0);
    }

    private static void writeBytes() {
        Session s = new Session();
        s.file(0, "/a");
        due("the least", s.write(0, 0, 0), 1);
        due("the greatest", s.write(0, 0, 255), 2);
        for (int b : new int[] {-1, 256, 257, 511, -256, Integer.MIN_VALUE, Integer.MAX_VALUE}) {
            due("no byte " + b, s.write(0, 0, b), ARGUMENT);
        }
        due("none of them was written", s.write(0, 0, 1), 3);
        s.open(0, "/a", 0);
        due("the least", s.read(0, 1), 0);
        due("the greatest", s.read(0, 1), 255);
        due("the one behind", s.read(0, 1), 1);
        due("no more", s.read(0, 1), -1);
    }

    private static void samePlace() {
        Session s = new Session();
        s.file(0, "/a");
        for (int i = 1; i <= 3; i++) {
            s.write(0, 0, i);
        }
        due("it is behind what it wrote", s.read(0, 0), -1);
        s.open(0, "/a", 2);
        due("read at 0", s.read(0, 1), 1);
        due("write at 1", s.write(0, 1, 12), 3);
        due("read at 2", s.read(0, 1), 3);
        due("read at the end", s.read(0, 1), -1);
        due("write at 3", s.write(0, 1, 14), 4);
        due("the other file is still at 3", s.read(0, 0), 14);
        due("and then at 4", s.write(0, 0, 15), 5);
        s.dueBytes("the place", 0, 16, 0, 0, 0, 118, 1, 0, 1, 0, 0, 0, 4, 0, 0, 0, 15);
    }

    private static void writeWrong() {
        Session s = new Session().files("/a");
        s.open(0, "/a", 1);
        s.fork(0, true);
        for (int p : NO_PROCESSES) {
            due("process " + p, s.write(p, 0, 0), ARGUMENT);
        }
        due("a process that is not there", s.write(2, 0, 0), ARGUMENT);
        due("another process's file", s.write(1, 0, 0), ARGUMENT);
        for (int file : NO_FILES) {
            due("file " + file, s.write(0, file, 0), ARGUMENT);
        }
        for (int file = 1; file <= 4; file++) {
            due("file " + file + " is not open", s.write(0, file, 0), ARGUMENT);
        }
        s.open(0, "/a", 0);
        due("another byte comes before the mode", s.write(0, 1, 256), ARGUMENT);
        s.remove(0, "/a");
        due("another byte comes before gone", s.write(0, 0, -1), ARGUMENT);
        s.close(0, 0);
        due("a file that was closed", s.write(0, 0, 0), ARGUMENT);
    }

    private static void writeModes() {
        Session s = new Session().files("/a");
        for (int mode = 0; mode <= 2; mode++) {
            s.open(0, "/a", mode);
        }
        s.mark();
        due("mode 0", s.write(0, 0, 1), UNSUPPORTED);
        s.dueSent("nothing", 0, 0);
        due("mode 1", s.write(0, 1, 2), 1);
        due("mode 2", s.write(0, 2, 3), 1);
        due("the place of mode 0 did not grow", s.read(0, 0), 3);
        s.open(0, "/", 0);
        s.mark();
        due("a directory", s.write(0, 3, 1), UNSUPPORTED);
        s.dueSent("nothing", 0, 0);
    }

    private static void writeRefused() {
        Session s = new Session();
        s.file(0, "/a");
        s.open(0, "/a", 2);
        for (int i = 0; i < 8; i++) {
            s.write(0, 0, i);
        }
        due("full", s.write(0, 0, 9), STATE);
        due("the place did not grow: nothing there", s.read(0, 0), -1);
        s.dueBytes("place 8", 0, 15, 0, 0, 0, 116, 1, 0, 1, 0, 0, 0, 8, 0, 0, 0);
        due("full again", s.write(0, 0, 9), STATE);
        due("another at place 0 may", s.write(0, 1, 9), 8);
        s.remove(0, "/a");
        due("gone", s.write(0, 1, 9), ELEMENT);
        due("gone again", s.write(0, 1, 9), ELEMENT);
        s.dueBytes("the place did not grow", 0, 16, 0, 0, 0, 118, 1, 0, 2, 0, 0, 0, 1, 0, 0, 0, 9);
    }

    private static void closeHandles() {
        Session s = new Session().directories("/a").files("/a/f");
        s.mount(0, 0, "/a", 2);
        s.mount(0, 1, "/a", 2);
        s.open(0, "/a", 0);
        for (int i = 0; i < 4; i++) {
            s.read(0, 0);
        }
        s.mark();
        due("one of three handles, read to its end", s.close(0, 0), 0);
        s.dueSent("all three", 2, 1);
        s.dueLatest("the last is the last", CLUNK, 2);
        s.dueHandles("members stay", 3, 2);
        s.open(0, "/a/f", 0);
        s.remove(0, "/a/f");
        s.mark();
        due("one that is gone", s.close(0, 0), 0);
        s.dueSent("one", 1, 0);
        s.dueHandles("members stay", 3, 2);
    }

    private static void closeCounts() {
        Session s = new Session();
        s.fork(0, true);
        for (int i = 0; i < 5; i++) {
            s.open(0, "/", 0);
        }
        s.open(1, "/", 0);
        int left = 5;
        for (int file : new int[] {4, 0, 2, 1, 3}) {
            left--;
            due("close " + file, s.close(0, file), left);
        }
        due("none is open", s.x.process(0, 1), 0);
        due("the other process's own", s.close(1, 0), 0);
    }

    private static void closeWrong() {
        Session s = new Session();
        s.fork(0, true);
        s.open(0, "/", 0);
        for (int p : NO_PROCESSES) {
            due("process " + p, s.close(p, 0), ARGUMENT);
        }
        due("a process that is not there", s.close(2, 0), ARGUMENT);
        due("another process's file", s.close(1, 0), ARGUMENT);
        for (int file : NO_FILES) {
            due("file " + file, s.close(0, file), ARGUMENT);
        }
        for (int file = 1; file <= 4; file++) {
            due("file " + file + " is not open", s.close(0, file), ARGUMENT);
        }
        due("it is open all the same", s.x.process(0, 1), 1);
        due("close", s.close(0, 0), 0);
        s.mark();
        due("not twice", s.close(0, 0), ARGUMENT);
        s.dueSent("nothing", 0, 0);
    }
}
