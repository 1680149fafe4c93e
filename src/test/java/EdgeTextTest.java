/** Boundary sentences of promises 1 to 3: a new object, type, keep. */
public final class EdgeTextTest extends Edge {
    private static final String EIGHT_UP = "/../../../../../../../..";

    public static void main(String[] args) {
        sentence("As said above; an empty text, nothing kept.", EdgeTextTest::newObject);
        sentence("Types a character behind the text: how many it has.", EdgeTextTest::counts);
        sentence("Throws IllegalStateException when it has 24.", EdgeTextTest::full);
        sentence("Throws IllegalStateException when it has 24.", EdgeTextTest::fullAgain);
        sentence("Keeps the text, in place of what is kept, and empties it: how many characters.", EdgeTextTest::keepCounts);
        sentence("Keeps the text, in place of what is kept, and empties it: how many characters.", EdgeTextTest::keepReplaces);
        Session.end("edges of texts");
    }

    private static void newObject() {
        Session s = new Session();
        due("nothing is typed", s.stat(0, ""), ARGUMENT);
        due("the first character", s.x.type('/'), 1);
        due("nothing is kept", Session.answer(() -> s.x.bind(0, 0)), ARGUMENT);
        due("keep of an empty text", s.x.keep(), 0);
        due("nothing was sent to server 0", s.messages(0), 1);
        due("nothing was sent to server 1", s.messages(1), 1);
        Session t = new Session();
        t.type("/");
        due("another object has its own text", new Session().x.keep(), 0);
        due("and this one too", t.x.keep(), 1);
    }

    private static void counts() {
        Session s = new Session();
        char[] odd = {'/', 'a', '\0', '\u00ff', '\u0100', '\uffff', '\n', ' '};
        for (int i = 0; i < odd.length; i++) {
            due("any character", s.x.type(odd[i]), i + 1);
        }
        due("all of them", s.x.keep(), odd.length);
    }

    private static void full() {
        Session s = new Session();
        for (int i = 1; i <= 24; i++) {
            due("character " + i, s.x.type(EIGHT_UP.charAt(i - 1)), i);
        }
        due("one more", Session.answer(() -> s.x.type('a')), STATE);
        due("and one more", Session.answer(() -> s.x.type('/')), STATE);
        due("the text is as it was", Session.answer(() -> s.x.stat(0)), 1);
        due("it is empty then", s.x.type('/'), 1);
    }

    private static void fullAgain() {
        Session s = new Session();
        for (int round = 0; round < 3; round++) {
            for (int i = 1; i <= 24; i++) {
                due("character " + i, s.x.type('a'), i);
            }
            due("one more", Session.answer(() -> s.x.type('a')), STATE);
            due("keep makes room", s.x.keep(), 24);
        }
        s.type(EIGHT_UP);
        due("one more", Session.answer(() -> s.x.type('a')), STATE);
        due("a call with a path makes room", Session.answer(() -> s.x.stat(0)), 1);
        due("the first again", s.x.type('a'), 1);
    }

    private static void keepCounts() {
        Session s = new Session();
        due("none", s.x.keep(), 0);
        s.type("/");
        due("one", s.x.keep(), 1);
        due("the text is empty", s.x.keep(), 0);
        s.type(EIGHT_UP);
        due("as many as there can be", s.x.keep(), 24);
        due("the text is empty", s.x.type('/'), 1);
        due("the long one is kept", Session.answer(() -> s.x.bind(0, 0)), 1);
    }

    private static void keepReplaces() {
        Session s = new Session().directories("/a", "/b").files("/a/c");
        s.keep(EIGHT_UP).keep("/a").type("/b");
        due("a shorter one in place of a longer", Session.answer(() -> s.x.bind(0, 0)), 1);
        due("it was /a", s.stat(0, "/b/c"), 6);
        s.keep("/a").keep("").type("/b");
        due("an empty one in place of it", Session.answer(() -> s.x.bind(0, 0)), ARGUMENT);
        s.keep("/a").type("/b");
        due("the text typed later does not change it", Session.answer(() -> s.x.bind(0, 0)), 1);
        due("it was /a", s.stat(0, "/b/c"), 6);
    }
}
