/** Boundary sentences of 'Terms' about each message: its errors, their order, and its bytes. */
public final class EdgeMessagesTest extends Edge {
    public static void main(String[] args) {
        sentence("also if it is gone: there are no errors", EdgeMessagesTest::walkOfOneGone);
        sentence("Errors: n the file is gone, d it is no directory, n there is none of that name.", EdgeMessagesTest::walkErrors);
        sentence("a mode (0 reading, 1 writing, 2 both), of which the server keeps nothing", EdgeMessagesTest::modes);
        sentence("errors: n gone, p a directory and the mode is not 0", EdgeMessagesTest::openErrors);
        sentence("such a file is made in the handle's directory, and the handle stands for it", EdgeMessagesTest::made);
        sentence("Errors: n gone, d no directory, x there is one of that name, f there are 20 files.", EdgeMessagesTest::createErrors);
        sentence("Errors: n gone, d no directory, x there is one of that name, f there are 20 files.", EdgeMessagesTest::createErrorsInOrder);
        sentence("the file at that place among those in it, the lowest serial first; or nothing, when there is none", EdgeMessagesTest::reads);
        sentence("Error n gone.", EdgeMessagesTest::readError);
        sentence("in place of one or behind all", EdgeMessagesTest::writes);
        sentence("Errors: n gone, f the place is 8.", EdgeMessagesTest::writeErrors);
        sentence("p it is the root, or a directory with files in it", EdgeMessagesTest::removeErrors);
        sentence("the handle stands for nothing in any case", EdgeMessagesTest::removeTakesTheHandle);
        Session.end("edges of messages");
    }

    private static void walkOfOneGone() {
        Session s = new Session().directories("/a", "/b");
        s.bind(0, "/b", "/a", 4);
        s.remove(0, "/b");
        due("a copy of a member that is gone", s.fork(0, false), 1);
        s.dueBytes("the walk", 0, 17, 0, 0, 0, 110, 1, 0, 1, 0, 0, 0, 2, 0, 0, 0, 0, 0);
        s.dueBytes("no error", 1, 7, 0, 0, 0, 111, 1, 0);
        s.mark();
        due("opening it", s.open(0, "/a", 0), ELEMENT);
        s.dueSent("walk, walk, clunk, open with an error, clunk", 5, 0);
        s.mark();
        due("making in it", s.file(0, "/a/c"), ELEMENT);
        s.dueSent("walk, walk, clunk, create with an error, clunk", 5, 0);
        s.dueHandles("nothing is left behind", 3, 1);
    }

    private static void walkErrors() {
        Session s = new Session().directories("/b").files("/f");
        s.fork(0, false);
        due("none of that name", s.stat(0, "/c"), ELEMENT);
        s.dueError("at the beginning", 'n');
        s.mark();
        due("no directory", s.stat(0, "/f/a"), UNSUPPORTED);
        s.dueSent("walk, walk with an error, clunk", 3, 0);
        s.bind(0, "/b", "/", 0);
        due("an empty member", s.stat(0, "/c"), ELEMENT);
        s.dueError("of the member", 'n');
        due("another process removes the member", s.remove(1, "/b"), 1);
        due("a member that is gone", s.stat(0, "/c"), ELEMENT);
        s.dueLatest("it was asked", WALK, 1);
        s.dueError("gone", 'n');
    }

    private static void modes() {
        Session s = new Session();
        s.file(0, "/a");
        due("to read", s.open(0, "/a", 0), 1);
        s.dueBytes("mode 0", 0, 12, 0, 0, 0, 112, 1, 0, 2, 0, 0, 0, 0);
        due("to write", s.open(0, "/a", 1), 2);
        s.dueBytes("mode 1", 0, 12, 0, 0, 0, 112, 1, 0, 3, 0, 0, 0, 1);
        due("both", s.open(0, "/a", 2), 3);
        s.dueBytes("mode 2", 0, 12, 0, 0, 0, 112, 1, 0, 4, 0, 0, 0, 2);
        due("all at once: one writes", s.write(0, 2, 7), 1);
        due("one reads", s.read(0, 1), 7);
        due("one reads", s.read(0, 3), 7);
        due("and writes", s.write(0, 3, 8), 2);
        due("which the first reads", s.read(0, 1), 8);
    }

    private static void openErrors() {
        Session s = new Session().directories("/a", "/b").files("/f");
        due("a directory to read", s.open(0, "/a", 0), 0);
        due("a directory to write", s.open(0, "/a", 1), UNSUPPORTED);
        due("a directory for both", s.open(0, "/a", 2), UNSUPPORTED);
        due("a file to write", s.open(0, "/f", 1), 1);
        due("a file for both", s.open(0, "/f", 2), 2);
        s.bind(0, "/b", "/a", 0);
        s.remove(0, "/b");
        due("gone, to read", s.open(0, "/a", 0), ELEMENT);
        due("gone comes before the mode", s.open(0, "/a", 1), ELEMENT);
        due("gone comes before the mode", s.open(0, "/a", 2), ELEMENT);
    }

    private static void made() {
        Session s = new Session().directories("/a");
        due("a file", s.file(0, "/a/b"), 0);
        s.dueBytes("open tells the new file", 1, 16, 0, 0, 0, 113, 1, 0, 0, 0, 0, 0, 0, 2, 0, 0, 0);
        due("it is written by that handle", s.write(0, 0, 9), 1);
        due("a directory", s.directory(0, "/a/c"), 1);
        s.dueBytes("open tells the new directory", 1, 16, 0, 0, 0, 113, 1, 0, 1, 0, 0, 0, 0, 3, 0, 0, 0);
        due("it is read by that handle: nothing in it", s.read(0, 1), -1);
        s.files("/a/c/h");
        due("what is in it then", s.read(0, 1), 'h');
        s.open(0, "/a", 0);
        due("the handle's directory has it", s.read(0, 2), 'b');
        due("and the other", s.read(0, 2), 'c');
        due("and no more", s.read(0, 2), -1);
    }

    private static void createErrors() {
        Session s = new Session().directories("/a", "/b", "/c").files("/f");
        due("no directory", s.file(0, "/f/a"), UNSUPPORTED);
        due("a file of that name", s.file(0, "/f"), UNSUPPORTED);
        due("a directory of that name", s.file(0, "/a"), UNSUPPORTED);
        due("a directory, where a file has the name", s.directory(0, "/f"), UNSUPPORTED);
        due("a directory, where a directory has the name", s.directory(0, "/a"), UNSUPPORTED);
        s.bind(0, "/b", "/a", 4);
        s.remove(0, "/b");
        due("gone", s.file(0, "/a/c"), ELEMENT);
        due("the file keeps its serial", s.stat(0, "/f"), 8);
        due("no serial was taken", s.x.server(0, 3), 5);
        s.dueHandles("the beginning and the member", 2, 1);
    }

    private static void createErrorsInOrder() {
        Session s = new Session();
        fill(s);
        due("twenty files and no directory: d", s.file(0, "/b/a/a"), UNSUPPORTED);
        due("twenty files and the name: x", s.file(0, "/b/a"), UNSUPPORTED);
        due("twenty files and the name of a directory: x", s.directory(0, "/c"), UNSUPPORTED);
        due("twenty files: f", s.file(0, "/c/a"), STATE);
        s.bind(0, "/d", "/c", 4);
        s.remove(0, "/d");
        s.files("/d");
        due("twenty files again", s.x.server(0, 2), 20);
        due("twenty files and gone: n", s.file(0, "/c/a"), ELEMENT);
    }

    private static void reads() {
        Session s = new Session().directories("/d");
        due("a file without bytes", s.file(0, "/f"), 0);
        due("nothing", s.read(0, 0), -1);
        s.dueBytes("no bytes", 1, 9, 0, 0, 0, 117, 1, 0, 0, 0);
        due("an empty directory", s.open(0, "/d", 0), 1);
        due("nothing", s.read(0, 1), -1);
        s.dueBytes("no letter", 1, 9, 0, 0, 0, 117, 1, 0, 0, 0);
        s.files("/d/h", "/d/a");
        due("the lowest serial", s.read(0, 1), 'h');
        s.dueBytes("its letter", 1, 10, 0, 0, 0, 117, 1, 0, 1, 0, 104);
        s.remove(0, "/d/h");
        due("one is left, at place 0, and this is place 1", s.read(0, 1), -1);
        s.files("/d/h");
        due("made again it has the highest serial", s.read(0, 1), 'h');
        s.directories("/d/b");
        s.files("/d/b/g");
        due("a directory has a letter too", s.read(0, 1), 'b');
        due("but not what is in that one", s.read(0, 1), -1);
        s.dueBytes("the place", 0, 15, 0, 0, 0, 116, 1, 0, 2, 0, 0, 0, 3, 0, 0, 0);
    }

    private static void readError() {
        Session s = new Session().directories("/d");
        s.file(0, "/f");
        s.write(0, 0, 1);
        s.open(0, "/f", 0);
        s.remove(0, "/f");
        due("a file that is gone, with a byte at the place", s.read(0, 1), ELEMENT);
        s.dueError("gone", 'n');
        due("a file that is gone, at its end", s.read(0, 0), ELEMENT);
        s.open(0, "/d", 0);
        s.remove(0, "/d");
        due("a directory that is gone", s.read(0, 2), ELEMENT);
        s.dueError("gone", 'n');
        due("as often as it is read", s.read(0, 2), ELEMENT);
    }

    private static void writes() {
        Session s = new Session();
        s.file(0, "/a");
        due("behind none", s.write(0, 0, 1), 1);
        due("behind all", s.write(0, 0, 2), 2);
        s.open(0, "/a", 1);
        due("in place of the first", s.write(0, 1, 3), 2);
        due("in place of the last", s.write(0, 1, 4), 2);
        due("behind all", s.write(0, 1, 5), 3);
        s.open(0, "/a", 0);
        due("the first", s.read(0, 2), 3);
        due("the second", s.read(0, 2), 4);
        due("the third", s.read(0, 2), 5);
        due("no more", s.read(0, 2), -1);
    }

    private static void writeErrors() {
        Session s = new Session();
        s.file(0, "/a");
        for (int i = 0; i < 7; i++) {
            s.write(0, 0, i);
        }
        due("at place 7", s.write(0, 0, 7), 8);
        due("at place 8", s.write(0, 0, 8), STATE);
        s.dueError("full", 'f');
        s.dueBytes("the place is 8", 0, 16, 0, 0, 0, 118, 1, 0, 1, 0, 0, 0, 8, 0, 0, 0, 8);
        s.open(0, "/a", 1);
        s.remove(0, "/a");
        due("gone", s.write(0, 1, 8), ELEMENT);
        s.dueError("gone", 'n');
        due("gone comes before full", s.write(0, 0, 8), ELEMENT);
        s.dueError("gone", 'n');
    }

    private static void removeErrors() {
        Session s = new Session().directories("/a", "/b").files("/a/c");
        due("with a file in it", s.remove(0, "/a"), UNSUPPORTED);
        s.dueError("not allowed", 'p');
        s.directories("/a/d");
        s.remove(0, "/a/c");
        due("with a directory in it", s.remove(0, "/a"), UNSUPPORTED);
        s.remove(0, "/a/d");
        due("empty again", s.remove(0, "/a"), 1);
        s.mount(0, 1, "/b", 4);
        s.files("/b/c");
        due("files of a member are not in it", s.remove(0, "/b"), 2);
        due("the root, without a message", s.remove(0, "/"), UNSUPPORTED);
        due("the root is left", s.x.server(0, 2), 1);
    }

    private static void removeTakesTheHandle() {
        Session s = new Session().directories("/a").files("/a/b");
        s.mark();
        due("refused", s.remove(0, "/a"), UNSUPPORTED);
        s.dueSent("walk, remove", 2, 0);
        s.dueLatest("no clunk behind it", REMOVE, 1);
        s.dueHandles("the handle is free", 1, 1);
        s.mark();
        due("done", s.remove(0, "/a/b"), 2);
        s.dueSent("walk, walk, clunk, remove", 4, 0);
        s.dueLatest("no clunk behind it", REMOVE, 2);
        s.dueHandles("the handle is free", 1, 1);
        due("it is new again", s.stat(0, "/a"), 3);
        s.dueLatest("by its number", CLUNK, 1);
    }
}
