/** Boundary sentences of 'Terms' about name spaces, places, members and walking. */
public final class EdgePlacesTest extends Edge {
    public static void main(String[] args) {
        sentence("NAME SPACES have PLACES, at most four", EdgePlacesTest::fourPlaces);
        sentence("NAME SPACES have PLACES, at most four", EdgePlacesTest::fourOfEachNameSpace);
        sentence("each is a file (server and serial)", EdgePlacesTest::serverAndSerial);
        sentence("each is a file (server and serial)", EdgePlacesTest::byAnyPath);
        sentence("with a list of one to three MEMBERS", EdgePlacesTest::threeMembers);
        sentence("one is at the beginning", EdgePlacesTest::noNames);
        sentence("the members of the place which the file is where one is, in their order", EdgePlacesTest::order);
        sentence("or, if it is no place, the handle where one is", EdgePlacesTest::membersAreNotPlaces);
        sentence("one after the other until one succeeds", EdgePlacesTest::untilOneSucceeds);
        sentence("then the handle where one was is clunked (never the beginning, nor a member), and one is at the new one", EdgePlacesTest::clunked);
        sentence("When none succeeds: that handle is clunked likewise", EdgePlacesTest::noneSucceeds);
        sentence("NoSuchElementException, or, if the last error was d, UnsupportedOperationException.", EdgePlacesTest::lastError);
        sentence("All that is walked to and not needed any more is clunked, but never the beginning.", EdgePlacesTest::nothingLeft);
        Session.end("edges of places");
    }

    private static void fourPlaces() {
        Session s = new Session().directories("/a", "/b", "/c", "/d");
        for (char c = 'a'; c <= 'd'; c++) {
            due("a place at " + c, s.mount(0, 1, "/" + c, 0), 1);
            due("places", s.x.process(0, 2), c - 'a' + 1);
        }
        due("a fifth", s.mount(0, 1, "/", 0), STATE);
        due("a fifth, before", s.mount(0, 1, "/", 1), STATE);
        due("a fifth, behind", s.bind(0, "/", "/", 2), STATE);
        due("one of the four", s.mount(0, 1, "/d", 2), 2);
        due("one of the four, alone", s.bind(0, "/", "/a", 4), 1);
        due("four", s.x.process(0, 2), 4);
        due("one goes", s.unmount(0, "/b"), 3);
        due("another comes", s.mount(0, 1, "/", 2), 2);
        due("four again", s.x.process(0, 2), 4);
        due("the one that went would be a fifth", s.mount(0, 1, "/b", 0), STATE);
    }

    private static void fourOfEachNameSpace() {
        Session s = new Session().directories("/a", "/b", "/c", "/d");
        for (char c = 'a'; c <= 'c'; c++) {
            s.mount(0, 1, "/" + c, 0);
        }
        s.fork(0, false);
        s.fork(0, true);
        due("the fourth", s.mount(0, 1, "/d", 0), 1);
        due("the copy has room for a fourth of its own", s.mount(1, 1, "/d", 0), 1);
        due("a fifth", s.mount(0, 1, "/", 0), STATE);
        due("a fifth of the copy", s.mount(1, 1, "/", 0), STATE);
        due("a fifth of the shared one", s.mount(2, 1, "/", 0), STATE);
    }

    private static void serverAndSerial() {
        Session s = new Session().directories("/a");
        s.mount(0, 1, "/a", 4);
        s.directories("/a/b");
        due("the same serial on the other server", s.stat(0, "/a/b"), 103);
        due("is no place", s.unmount(0, "/a/b"), UNSUPPORTED);
        due("it is walked by its own handle", s.stat(0, "/a/b/b"), ELEMENT);
        due("it becomes a second place", s.mount(0, 0, "/a/b", 0), 1);
        due("two places", s.x.process(0, 2), 2);
        due("through both", s.stat(0, "/a/b/a"), 3);
        due("the first goes", s.unmount(0, "/a"), 1);
        s.directories("/a/c");
        due("a file with another serial", s.unmount(0, "/a/c"), UNSUPPORTED);
    }

    private static void byAnyPath() {
        Session s = new Session().directories("/a", "/b", "/b/c");
        s.mount(0, 1, "/b/c", 4);
        s.bind(0, "/b", "/a", 0);
        s.files("/b/c/h");
        due("the same file by another path", s.stat(0, "/a/c/h"), 102);
        due("is the same place", s.mount(0, 1, "/a/c", 2), 2);
        due("two places", s.x.process(0, 2), 2);
        due("it goes by either", s.unmount(0, "/a/c"), 1);
        due("not twice", s.unmount(0, "/b/c"), UNSUPPORTED);
        s.mount(0, 1, "/b/c", 0);
        s.remove(0, "/b/c");
        s.directories("/b/c");
        due("another file by the same path is no place", s.unmount(0, "/b/c"), UNSUPPORTED);
        due("the place of the one that is gone stays", s.x.process(0, 2), 2);
    }

    private static void threeMembers() {
        for (int how = 1; how <= 2; how++) {
            Session s = new Session().directories("/a");
            due("one", s.mount(0, 1, "/a", 0), 1);
            due("two", s.mount(0, 1, "/a", how), 2);
            due("three", s.mount(0, 1, "/a", how + 4), 3);
            due("four before", s.mount(0, 1, "/a", 1), STATE);
            due("four behind", s.mount(0, 1, "/a", 2), STATE);
            due("four before, to make files", s.mount(0, 1, "/a", 5), STATE);
            due("four behind, to make files", s.bind(0, "/", "/a", 6), STATE);
            s.dueHandles("three members", 1, 4);
            due("one again", s.mount(0, 1, "/a", 0), 1);
            s.dueHandles("one member", 1, 2);
            due("two again", s.mount(0, 1, "/a", how), 2);
            Session t = new Session().directories("/a");
            due("a new place has itself", t.mount(0, 1, "/a", how), 2);
            due("a third", t.mount(0, 1, "/a", how), 3);
            due("a fourth", t.mount(0, 1, "/a", how), STATE);
        }
    }

    private static void noNames() {
        Session s = new Session().directories("/a");
        s.mark();
        due("no name is walked", s.stat(0, "/"), 1);
        s.dueSent("stat alone", 1, 0);
        s.dueLatest("of the beginning", STAT, 0);
        s.mount(0, 1, "/", 4);
        s.mark();
        due("also when it is a place: its own file", s.stat(0, "/"), 1);
        s.dueSent("stat alone", 1, 0);
        s.dueLatest("of the beginning", STAT, 0);
    }

    private static void order() {
        Session s = new Session().directories("/a", "/b", "/c", "/d");
        s.files("/b/h", "/c/h", "/c/g", "/d/h", "/d/g", "/d/f");
        s.bind(0, "/b", "/a", 0);
        s.bind(0, "/c", "/a", 2);
        s.bind(0, "/d", "/a", 2);
        due("the first has it", s.stat(0, "/a/h"), 10);
        due("the second has it", s.stat(0, "/a/g"), 14);
        due("the third has it", s.stat(0, "/a/f"), 20);
        s.bind(0, "/d", "/a", 0);
        s.bind(0, "/c", "/a", 1);
        s.bind(0, "/b", "/a", 1);
        due("put before, the first", s.stat(0, "/a/h"), 10);
        due("put before, the second", s.stat(0, "/a/g"), 14);
        due("put before, the third", s.stat(0, "/a/f"), 20);
        s.bind(0, "/d", "/a", 0);
        s.bind(0, "/b", "/a", 2);
        s.bind(0, "/c", "/a", 1);
        due("one before and one behind", s.stat(0, "/a/h"), 12);
    }

    /* A member's handle is asked itself, whatever is bound at its file. */
    private static void membersAreNotPlaces() {
        Session s = new Session().directories("/a", "/b").files("/b/c");
        s.mount(0, 1, "/b", 4);
        due("what is bound at /b hides its own", s.stat(0, "/b/c"), ELEMENT);
        s.bind(0, "/b", "/a", 0);
        due("/b as a member is asked itself", s.stat(0, "/a/c"), 6);
    }

    private static void untilOneSucceeds() {
        Session s = new Session().directories("/a").files("/a/b", "/a/c");
        s.mount(0, 1, "/a", 6);
        s.mark();
        due("the first has it", s.stat(0, "/a/b"), 4);
        s.dueSent("walk, walk, clunk, stat, clunk", 5, 0);
        s.mark();
        due("none has it", s.stat(0, "/a/h"), ELEMENT);
        s.dueSent("walk, walk, clunk, and one walk", 3, 1);
        s.mount(0, 1, "/a", 5);
        s.files("/a/b");
        s.mark();
        due("now another is the first that has it", s.stat(0, "/a/b"), 102);
        s.dueSent("walk, clunk, and walk, stat, clunk", 2, 3);
        s.mark();
        due("the second has it", s.stat(0, "/a/c"), 6);
        s.dueSent("walk, walk, clunk, stat, clunk, and one walk; the third is not asked", 5, 1);
    }

    private static void clunked() {
        Session s = new Session().directories("/a", "/a/b").files("/a/b/c");
        s.mark();
        due("three names", s.stat(0, "/a/b/c"), 6);
        s.dueSent("three walks and two clunks between them, stat, clunk", 7, 0);
        s.dueHandles("the beginning stays", 1, 1);
        s.bind(0, "/a/b", "/a", 0);
        s.mark();
        due("across a member", s.stat(0, "/a/c"), 6);
        s.dueSent("walk, walk, clunk of the place's handle, stat, clunk", 5, 0);
        s.dueLatest("which stood until the new one did", CLUNK, 3);
        s.dueHandles("the member stays", 2, 1);
        s.bind(0, "/a", "/", 0);
        due("across a member of the beginning", s.stat(0, "/b"), 5);
        s.dueHandles("it stays too", 3, 1);
        s.mark();
        due("and from there", s.stat(0, "/b/c"), 6);
        s.dueSent("walk, walk, clunk, stat, clunk", 5, 0);
        s.dueHandles("as before", 3, 1);
    }

    private static void noneSucceeds() {
        Session s = new Session().directories("/a", "/a/b");
        s.mark();
        due("at the second name", s.stat(0, "/a/c"), ELEMENT);
        s.dueSent("walk, walk, clunk", 3, 0);
        s.dueLatest("where one was", CLUNK, 1);
        s.mark();
        due("at the first of three names", s.stat(0, "/h/b/c"), ELEMENT);
        s.dueSent("walk alone: the rest is not walked", 1, 0);
        s.mount(0, 0, "/a/b", 1);
        s.mount(0, 1, "/a/b", 2);
        s.mark();
        due("each of three members is asked", s.stat(0, "/a/b/h/h"), ELEMENT);
        s.dueSent("walk, walk, clunk, two walks, clunk, and one walk", 6, 1);
        s.dueHandles("members stay", 3, 2);
        s.mount(0, 1, "/", 0);
        s.mark();
        due("at the beginning", s.stat(0, "/a"), ELEMENT);
        s.dueSent("one walk", 0, 1);
        s.dueHandles("all stay", 3, 3);
    }

    /* /a has itself, server 1's root and /b as members, of which /b is gone; /c has nothing but server 1's root. */
    private static void nothingLeft() {
        Session s = new Session().directories("/a", "/b", "/c", "/a/d").files("/a/f");
        s.mount(0, 1, "/a", 2);
        s.bind(0, "/b", "/a", 2);
        s.mount(0, 1, "/c", 0);
        s.remove(0, "/b");
        String[] paths = {"/", "/a", "/c", "/a/d", "/a/f", "/a/h", "/c/h", "/h", "/a/f/h", "/a/d/h", "/h/h"};
        for (String path : paths) {
            s.stat(0, path);
            s.dueHandles("stat of " + path, 3, 3);
            int number = s.open(0, path, 1);
            if (number >= 0) {
                s.close(0, number);
            }
            s.dueHandles("open of " + path, 3, 3);
        }
        for (String path : new String[] {"/", "/a", "/a/f", "/a/f/h", "/c/h", "/h/h"}) {
            s.file(0, path);
            s.dueHandles("create of " + path, 3, 3);
            s.bind(0, path, "/h", 0);
            s.dueHandles("bind of " + path, 3, 3);
            s.bind(0, path, "/a", 2);
            s.dueHandles("bind of " + path + " as a fourth", 3, 3);
        }
        for (String path : new String[] {"/", "/a/d", "/a/f", "/a/f/h", "/h"}) {
            s.unmount(0, path);
            s.dueHandles("unmount of " + path, 3, 3);
        }
    }

    private static void lastError() {
        Session s = new Session().directories("/a", "/b").files("/f", "/a/f");
        due("no file of that name", s.stat(0, "/h"), ELEMENT);
        due("below a file", s.stat(0, "/f/a"), UNSUPPORTED);
        due("far below a file", s.stat(0, "/f/a/a/a"), UNSUPPORTED);
        due("below a file in a directory", s.stat(0, "/a/f/h"), UNSUPPORTED);
        due("below nothing", s.stat(0, "/a/h/h"), ELEMENT);
        s.bind(0, "/b", "/a", 2);
        due("below a file of a member", s.stat(0, "/a/f/h"), UNSUPPORTED);
        due("the first that has it is a file", s.open(0, "/a/f/h", 0), UNSUPPORTED);
        s.remove(0, "/b");
        due("the last member is gone", s.stat(0, "/a/h"), ELEMENT);
        due("for making", s.file(0, "/a/f/h/h"), UNSUPPORTED);
        due("for removing", s.remove(0, "/f/h"), UNSUPPORTED);
        due("for binding", s.bind(0, "/f/h", "/a", 0), UNSUPPORTED);
        due("for binding, the place", s.bind(0, "/a", "/f/h", 0), UNSUPPORTED);
        due("for mounting", s.mount(0, 1, "/f/h", 0), UNSUPPORTED);
        due("for unmounting", s.unmount(0, "/f/h"), UNSUPPORTED);
        due("for making, of nothing", s.file(0, "/h/h"), ELEMENT);
        due("for removing, of nothing", s.remove(0, "/h"), ELEMENT);
        due("for binding, of nothing", s.bind(0, "/h", "/a", 0), ELEMENT);
        due("for binding, the place, of nothing", s.bind(0, "/a", "/h", 0), ELEMENT);
        due("for mounting, of nothing", s.mount(0, 1, "/h", 0), ELEMENT);
        due("for unmounting, of nothing", s.unmount(0, "/h"), ELEMENT);
        s.dueHandles("the two members alone", 3, 1);
    }
}
