/** What the tests of the document's boundary sentences share. */
abstract class Edge {
    static final int ARGUMENT = Session.ILLEGAL_ARGUMENT;
    static final int STATE = Session.ILLEGAL_STATE;
    static final int ELEMENT = Session.NO_SUCH_ELEMENT;
    static final int UNSUPPORTED = Session.UNSUPPORTED;

    static final int ATTACH = 104;
    static final int WALK = 110;
    static final int OPEN = 112;
    static final int READ = 116;
    static final int WRITE = 118;
    static final int CLUNK = 120;
    static final int REMOVE = 122;
    static final int STAT = 124;

    /* Numbers around 0 .. 3, and the ends of int. */
    static final int[] NO_PROCESSES = {-1, 4, 5, Integer.MIN_VALUE, Integer.MAX_VALUE};

    static void sentence(String said, Runnable test) {
        Session.sentence(said, test);
    }

    static void due(String what, int got, int want) {
        Session.due(what, got, want);
    }

    /** Nineteen files, with the root as many as a server keeps; /b/a .. /b/c are empty files. */
    static void fill(Session s) {
        for (char c = 'a'; c <= 'h'; c++) {
            s.directories("/" + c);
        }
        for (char c = 'a'; c <= 'h'; c++) {
            s.files("/a/" + c);
        }
        s.files("/b/a", "/b/b", "/b/c");
    }
}
