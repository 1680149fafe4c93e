/** Boundary sentences of promises 11 and 12: bind and mount. */
public final class EdgeBindTest extends Edge {
    private static final int[] NO_HOWS = {-8, -4, -3, -2, -1, 3, 7, 8, 9, 10, 12, Integer.MIN_VALUE, Integer.MAX_VALUE};

    public static void main(String[] args) {
        sentence("First the kept one is walked (for the beginning: a new handle by WALK without a name): this is the new member M", EdgeBindTest::member);
        sentence("UnsupportedOperationException if it is no directory", EdgeBindTest::noDirectory);
        sentence("0 the place's list becomes M alone (members that there were are clunked, in order)", EdgeBindTest::alone);
        sentence("1 M comes before, 2 behind the members", EdgeBindTest::beforeAndBehind);
        sentence("a place that is new has then itself as the other member", EdgeBindTest::itself);
        sentence("the handle walked to (for the beginning a new one, as above), where files may be made", EdgeBindTest::itselfAtTheBeginning);
        sentence("of a new place, what was walked to last is a member, or, with how % 4 = 0, is clunked", EdgeBindTest::newPlaceMessages);
        sentence("of one that was there, first the members are clunked, with how % 4 = 0, then what was walked to last", EdgeBindTest::oldPlaceMessages);
        sentence("Files may be made in M if how / 4 is 1.", EdgeBindTest::making);
        sentence("Throws IllegalArgumentException when there is no such process, one of the texts is no path, or how is not 0, 1, 2, 4, 5, 6", EdgeBindTest::wrong);
        sentence("IllegalStateException, when both are walked and directories, if there are four places and it is a new one", EdgeBindTest::fifthPlace);
        sentence("or it has three members and how % 4 is not 0", EdgeBindTest::fourthMember);
        sentence("Whenever something is thrown, what was walked to is clunked, the other one first, then M.", EdgeBindTest::thrown);
        sentence("M is a new handle of a server (0 or 1, else IllegalArgumentException) by ATTACH, made before the text's path is walked", EdgeBindTest::mounts);
        sentence("M is a new handle of a server (0 or 1, else IllegalArgumentException) by ATTACH, made before the text's path is walked", EdgeBindTest::mountWrong);
        sentence("M is a new handle of a server (0 or 1, else IllegalArgumentException) by ATTACH, made before the text's path is walked", EdgeBindTest::mountRefused);
        sentence("nothing that is kept is looked at", EdgeBindTest::mountKept);
        Session.end("edges of bind and mount");
    }

    private static void member() {
        Session s = new Session().directories("/a", "/b").files("/b/c");
        due("/b at /a", s.bind(0, "/b", "/a", 0), 1);
        due("is M", s.stat(0, "/a/c"), 6);
        s.mark();
        due("the beginning at /b", s.bind(0, "/", "/b", 0), 1);
        s.dueSent("walk without a name, walk, clunk", 3, 0);
        due("M is the beginning's file", s.stat(0, "/b/b"), 5);
        s.dueHandles("M is another handle than the beginning", 3, 1);
        Session t = new Session().directories("/a", "/b");
        t.mount(0, 1, "/b", 0);
        t.mark();
        due("a place as M: its own file", t.bind(0, "/b", "/a", 0), 1);
        t.dueSent("walk, walk, clunk", 3, 0);
        due("where one is when M is walked does not matter to the place", t.x.process(0, 2), 2);
    }

    private static void noDirectory() {
        Session s = new Session().directories("/a").files("/f");
        for (int how : new int[] {0, 1, 2, 4, 5, 6}) {
            s.mark();
            due("M is none", s.bind(0, "/f", "/a", how), UNSUPPORTED);
            s.dueSent("walk, clunk", 2, 0);
            s.mark();
            due("the place is none", s.bind(0, "/a", "/f", how), UNSUPPORTED);
            s.dueSent("walk, walk, clunk, clunk", 4, 0);
            s.dueLatest("M is the last", CLUNK, 1);
        }
        due("M comes before a place that is not there", s.bind(0, "/f", "/h", 0), UNSUPPORTED);
        due("M comes before a place that is none", s.bind(0, "/h", "/f", 0), ELEMENT);
        due("no places", s.x.process(0, 2), 0);
        s.dueHandles("nothing is left behind", 1, 1);
    }

    private static void alone() {
        Session s = new Session().directories("/a", "/b").files("/a/c", "/b/d");
        due("a new place", s.bind(0, "/b", "/a", 0), 1);
        due("its own files are hidden", s.stat(0, "/a/c"), ELEMENT);
        due("M's are seen", s.stat(0, "/a/d"), 8);
        s.mount(0, 1, "/a", 2);
        s.mount(0, 0, "/a", 2);
        s.mark();
        due("in place of three", s.mount(0, 1, "/a", 4), 1);
        s.dueSent("walk, two clunks, clunk, and attach, clunk", 4, 2);
        s.dueLatest("what was walked to is the last", CLUNK, 3);
        due("members", s.x.process(0, 3), 1);
        due("theirs are not seen any more", s.stat(0, "/a/d"), ELEMENT);
        s.mark();
        due("what is bound is walked before the members go", s.mount(0, 1, "/a", 0), 1);
        s.dueSent("walk, clunk, and attach, clunk", 2, 2);
        for (int first = 0; first <= 1; first++) {
            Session t = new Session();
            for (int i = 0; i < 3; i++) {
                t.mount(0, first, "/", i == 0 ? 0 : 2);
            }
            t.mark();
            due("at the beginning, in place of 1, 2 and 3", t.mount(0, 1, "/", 0), 1);
            t.dueSent("three clunks, and attach", first == 0 ? 3 : 0, first == 0 ? 1 : 4);
            t.dueLatest("the last of them", CLUNK, 3);
        }
    }

    private static void beforeAndBehind() {
        Session s = new Session().directories("/a", "/b", "/c", "/d");
        s.files("/b/h", "/c/h", "/d/h");
        s.bind(0, "/b", "/a", 0);
        due("before one", s.bind(0, "/c", "/a", 1), 2);
        due("the first", s.stat(0, "/a/h"), 12);
        due("before two", s.bind(0, "/d", "/a", 1), 3);
        due("the first", s.stat(0, "/a/h"), 14);
        s.bind(0, "/b", "/a", 0);
        due("behind one", s.bind(0, "/c", "/a", 2), 2);
        due("behind two", s.bind(0, "/d", "/a", 2), 3);
        due("the first is as it was", s.stat(0, "/a/h"), 10);
        s.remove(0, "/b/h");
        due("then the second", s.stat(0, "/a/h"), 12);
        s.remove(0, "/c/h");
        due("then the third", s.stat(0, "/a/h"), 14);
    }

    private static void itself() {
        Session s = new Session().directories("/a", "/b").files("/a/h", "/b/h", "/a/g");
        s.mark();
        due("M before it", s.bind(0, "/b", "/a", 1), 2);
        s.dueSent("walk, walk", 2, 0);
        due("M first", s.stat(0, "/a/h"), 8);
        due("then itself", s.stat(0, "/a/g"), 10);
        due("files are made in itself", s.file(0, "/a/f"), 0);
        s.unmount(0, "/a");
        due("they are there", s.stat(0, "/a/f"), 12);
        due("M behind it", s.bind(0, "/b", "/a", 6), 2);
        due("itself first", s.stat(0, "/a/h"), 6);
        due("files are made in itself, the first that may", s.file(0, "/a/e"), 1);
        due("not in M", s.stat(0, "/b/e"), ELEMENT);
    }

    private static void itselfAtTheBeginning() {
        Session s = new Session().directories("/a");
        s.mark();
        due("M before it", s.bind(0, "/a", "/", 1), 2);
        s.dueSent("walk, walk without a name", 2, 0);
        s.dueBytes("the latter", 0, 17, 0, 0, 0, 110, 1, 0, 0, 0, 0, 0, 2, 0, 0, 0, 0, 0);
        s.dueHandles("the beginning and two members", 3, 1);
        due("files are made in itself", s.file(0, "/b"), 0);
        s.mark();
        due("it goes", s.unmount(0, "/"), 0);
        s.dueSent("two clunks", 2, 0);
        due("the beginning has what was made", s.stat(0, "/b"), 4);
        s.mark();
        due("alone: it is no member", s.bind(0, "/a", "/", 4), 1);
        s.dueSent("walk", 1, 0);
        due("and there is one more member", s.handles(0), 3);
    }

    private static void newPlaceMessages() {
        for (int how : new int[] {0, 1, 2, 4, 5, 6}) {
            Session s = new Session().directories("/a", "/b");
            s.mark();
            due("bind " + how, s.bind(0, "/b", "/a", how), how % 4 == 0 ? 1 : 2);
            s.dueSent("walk, walk, with how % 4 = 0 clunk", how % 4 == 0 ? 3 : 2, 0);
            s.dueLatest("what was walked to last", how % 4 == 0 ? CLUNK : WALK, how % 4 == 0 ? 2 : 0);
            s.dueHandles("members", how % 4 == 0 ? 2 : 3, 1);
            due("one place", s.x.process(0, 2), 1);
        }
    }

    private static void oldPlaceMessages() {
        for (int how : new int[] {0, 1, 2, 4, 5, 6}) {
            Session s = new Session().directories("/a", "/b");
            s.bind(0, "/b", "/a", 2);
            s.mark();
            due("bind " + how, s.bind(0, "/b", "/a", how), how % 4 == 0 ? 1 : 3);
            s.dueSent("walk, walk, with how % 4 = 0 two clunks, clunk", how % 4 == 0 ? 5 : 3, 0);
            s.dueLatest("what was walked to last", CLUNK, 4);
            s.dueHandles("members", how % 4 == 0 ? 2 : 4, 1);
            due("one place", s.x.process(0, 2), 1);
        }
    }

    private static void making() {
        for (int how : new int[] {0, 1, 2}) {
            Session s = new Session().directories("/a");
            s.mount(0, 0, "/a", 0);
            due("how " + how, s.mount(0, 1, "/a", how), how == 0 ? 1 : 2);
            due("not in M", s.file(0, "/a/c"), UNSUPPORTED);
            Session t = new Session().directories("/a");
            t.mount(0, 0, "/a", 0);
            due("how " + (how + 4), t.mount(0, 1, "/a", how + 4), how == 0 ? 1 : 2);
            due("in M", t.file(0, "/a/c"), 0);
            due("and in no other", t.x.server(1, 2), 2);
        }
    }

    private static void wrong() {
        Session s = new Session().directories("/a");
        s.mark();
        for (int p : NO_PROCESSES) {
            due("process " + p, s.bind(p, "", "", 0), ARGUMENT);
        }
        due("a process that is not there", s.bind(2, "", "", 0), ARGUMENT);
        due("no text", s.bind(0, "/a", "", 0), ARGUMENT);
        due("nothing kept", s.bind(0, "", "/a", 0), ARGUMENT);
        due("the text is no path", s.bind(0, "/a", "/a/", 0), ARGUMENT);
        due("what is kept is no path", s.bind(0, "/a/", "/a", 0), ARGUMENT);
        for (int how : NO_HOWS) {
            due("how " + how, s.bind(0, "/a", "/a", how), ARGUMENT);
        }
        s.dueSent("nothing", 0, 0);
        due("nothing was bound", s.x.process(0, 2), 0);
    }

    private static void fifthPlace() {
        Session s = new Session().directories("/a", "/b", "/c", "/d", "/e").files("/f");
        for (String path : new String[] {"/a", "/b", "/c"}) {
            s.bind(0, "/e", path, 0);
        }
        due("the fourth", s.bind(0, "/e", "/d", 0), 1);
        for (int how : new int[] {0, 1, 2, 4, 5, 6}) {
            due("a fifth with how " + how, s.bind(0, "/a", "/e", how), STATE);
        }
        s.mark();
        due("the beginning as a fifth", s.bind(0, "/a", "/", 1), STATE);
        s.dueSent("walk, clunk of M: no new handle was made for it", 2, 0);
        due("what is not found comes before", s.bind(0, "/h", "/e", 0), ELEMENT);
        due("what is no directory comes before", s.bind(0, "/f", "/e", 0), UNSUPPORTED);
        due("a place that is not found comes before", s.bind(0, "/a", "/h", 0), ELEMENT);
        due("a place that is no directory comes before", s.bind(0, "/a", "/f", 0), UNSUPPORTED);
        due("one of the four may be bound at", s.bind(0, "/e", "/d", 2), 2);
        due("places", s.x.process(0, 2), 4);
        s.dueHandles("five members", 6, 1);
    }

    private static void fourthMember() {
        Session s = new Session().directories("/a", "/b").files("/f");
        s.bind(0, "/b", "/a", 2);
        due("the third", s.bind(0, "/b", "/a", 2), 3);
        for (int how : new int[] {1, 2, 5, 6}) {
            s.mark();
            due("a fourth with how " + how, s.bind(0, "/b", "/a", how), STATE);
            s.dueSent("walk, walk, clunk, clunk", 4, 0);
        }
        due("what is no directory comes before", s.bind(0, "/f", "/a", 2), UNSUPPORTED);
        due("what is not found comes before", s.bind(0, "/h", "/a", 2), ELEMENT);
        s.dueHandles("three members", 4, 1);
        due("alone it may", s.bind(0, "/b", "/a", 4), 1);
        s.dueHandles("one member", 2, 1);
    }

    private static void thrown() {
        Session s = new Session().directories("/a").files("/f");
        s.open(0, "/f", 0);
        s.mark();
        due("M is not found", s.bind(0, "/a/h", "/a", 0), ELEMENT);
        s.dueSent("walk, walk, clunk", 3, 0);
        s.mark();
        due("the place is not found", s.bind(0, "/a", "/h", 0), ELEMENT);
        s.dueSent("walk, walk, clunk of M", 3, 0);
        s.dueLatest("M", CLUNK, 2);
        s.mark();
        due("the place is not found below", s.bind(0, "/a", "/a/h", 0), ELEMENT);
        s.dueSent("walk, walk, walk, clunk, clunk of M", 5, 0);
        s.dueLatest("M", CLUNK, 2);
        s.mark();
        due("the place is no directory", s.bind(0, "/a", "/f", 0), UNSUPPORTED);
        s.dueSent("walk, walk, clunk, clunk of M", 4, 0);
        s.dueLatest("M", CLUNK, 2);
        s.mark();
        due("M is the beginning", s.bind(0, "/", "/f", 0), UNSUPPORTED);
        s.dueSent("walk without a name, walk, clunk, clunk of M", 4, 0);
        s.dueLatest("M", CLUNK, 2);
        s.mark();
        due("a mounted M", s.mount(0, 1, "/f", 0), UNSUPPORTED);
        s.dueSent("walk, clunk, and attach, clunk of M", 2, 2);
        s.dueLatest("M", CLUNK, 1);
        due("of server 1 is the last", s.x.server(1, 0), 3);
        s.dueHandles("nothing is left behind", 2, 1);
    }

    private static void mounts() {
        for (int server = 0; server <= 1; server++) {
            Session s = new Session().directories("/a");
            s.mark();
            due("at a new place", s.mount(0, server, "/a", 4), 1);
            s.dueSent("attach; walk, clunk", server == 0 ? 3 : 2, server);
            s.dueLatest("what was walked to, after M was made", CLUNK, server == 0 ? 2 : 1);
            due("made there", s.file(0, "/a/h"), 0);
            due("of that server", s.stat(0, "/a/h"), server == 0 ? 4 : 102);
        }
        Session t = new Session();
        due("at the beginning, before it", t.mount(0, 1, "/", 1), 2);
        t.dueLatest("the beginning's new handle comes last", WALK, 0);
        due("behind both", t.mount(0, 0, "/", 2), 3);
        t.dueLatest("attach alone", ATTACH, 2);
        due("no fourth", t.mount(0, 0, "/", 6), STATE);
        t.dueLatest("M alone is clunked", CLUNK, 3);
    }

    private static void mountWrong() {
        Session s = new Session().directories("/a");
        s.mark();
        for (int p : NO_PROCESSES) {
            due("process " + p, s.mount(p, 0, "", 0), ARGUMENT);
        }
        for (int server : new int[] {-1, 2, 3, Integer.MIN_VALUE, Integer.MAX_VALUE}) {
            due("server " + server, s.mount(0, server, "/a", 0), ARGUMENT);
        }
        for (int how : NO_HOWS) {
            due("how " + how, s.mount(0, 1, "/a", how), ARGUMENT);
        }
        due("no text", s.mount(0, 1, "", 0), ARGUMENT);
        due("no path", s.mount(0, 1, "/a/", 0), ARGUMENT);
        s.dueSent("nothing", 0, 0);
        due("nothing was bound", s.x.process(0, 2), 0);
    }

    private static void mountRefused() {
        Session s = new Session().directories("/a").files("/f");
        s.mark();
        due("not found", s.mount(0, 0, "/h", 0), ELEMENT);
        s.dueSent("attach, walk, clunk", 3, 0);
        s.mark();
        due("below a file", s.mount(0, 1, "/f/h", 0), UNSUPPORTED);
        s.dueSent("walk, walk, clunk, and attach, clunk", 3, 2);
        due("M is the last", s.x.wire(0, 4), CLUNK);
        s.dueHandles("nothing is left behind", 1, 1);
    }

    private static void mountKept() {
        Session s = new Session().directories("/a");
        s.keep("no path");
        due("what is kept is no path", s.mount(0, 1, "/a", 0), 1);
        s.keep("/a/");
        due("what is kept begins like a path", s.mount(0, 1, "/a", 0), 1);
        s.keep("/h");
        due("what is kept is not found", s.mount(0, 1, "/a", 0), 1);
        due("nothing is kept", s.mount(0, 1, "/a", 0), 1);
    }
}
