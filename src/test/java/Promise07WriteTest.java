public final class Promise07WriteTest {
    public static void main(String[] args) {
        wrong();
        plain();
        Session.end("promise 7");
    }

    private static void wrong() {
        Session s = new Session();
        s.file(0, "/a");
        int sent = s.messages(0);
        Session.due("no process", s.write(1, 0, 0), Session.ILLEGAL_ARGUMENT);
        Session.due("no process", s.write(-1, 0, 0), Session.ILLEGAL_ARGUMENT);
        Session.due("no open file", s.write(0, 1, 0), Session.ILLEGAL_ARGUMENT);
        Session.due("no open file", s.write(0, -1, 0), Session.ILLEGAL_ARGUMENT);
        Session.due("no open file", s.write(0, 5, 0), Session.ILLEGAL_ARGUMENT);
        Session.due("no byte", s.write(0, 0, -1), Session.ILLEGAL_ARGUMENT);
        Session.due("no byte", s.write(0, 0, 256), Session.ILLEGAL_ARGUMENT);
        Session.due("nothing was sent", s.messages(0) - sent, 0);
        s.open(0, "/a", 0);
        sent = s.messages(0);
        Session.due("only read", s.write(0, 1, 0), Session.UNSUPPORTED);
        Session.due("no byte is seen first", s.write(0, 1, 256), Session.ILLEGAL_ARGUMENT);
        Session.due("nothing was sent", s.messages(0) - sent, 0);
    }

    private static void plain() {
        Session s = new Session();
        s.file(0, "/a");
        for (int i = 0; i < 8; i++) {
            Session.due("write", s.write(0, 0, 255 - i), i + 1);
        }
        s.dueBytes("write", 0, 16, 0, 0, 0, 118, 1, 0, 1, 0, 0, 0, 7, 0, 0, 0, 248);
        s.dueBytes("its reply", 1, 11, 0, 0, 0, 119, 1, 0, 8, 0, 0, 0);
        Session.due("full", s.write(0, 0, 1), Session.ILLEGAL_STATE);
        s.dueBytes("error f", 1, 10, 0, 0, 0, 107, 1, 0, 1, 0, 102);
        Session.due("nothing behind it", s.read(0, 0), -1);
        s.open(0, "/a", 2);
        Session.due("in place of one", s.write(0, 1, 7), 8);
        Session.due("reading has the same place", s.read(0, 1), 254);
        Session.due("and writing too", s.write(0, 1, 8), 8);
        s.open(0, "/a", 1);
        Session.due("only written", s.write(0, 2, 5), 8);
        s.open(0, "/a", 0);
        Session.due("byte 0", s.read(0, 3), 5);
        s.dueBytes("byte 0", 1, 10, 0, 0, 0, 117, 1, 0, 1, 0, 5);
        Session.due("byte 1", s.read(0, 3), 254);
        Session.due("byte 2", s.read(0, 3), 8);
        s.open(0, "/a", 0);
        s.dueBytes("the version is how many were ever written", 1, 16, 0, 0, 0, 113, 1, 0, 0, 11, 0, 0, 0, 1, 0, 0, 0);
        s.remove(0, "/a");
        Session.due("gone", s.write(0, 1, 1), Session.NO_SUCH_ELEMENT);
        Session.due("gone is seen before full", s.write(0, 0, 1), Session.NO_SUCH_ELEMENT);
    }
}
