public final class Promise18ProcessTest {
    public static void main(String[] args) {
        Session s = new Session().directories("/a", "/b");
        for (int p : new int[] {-1, 4, Integer.MIN_VALUE, Integer.MAX_VALUE}) {
            for (int what = 0; what < 4; what++) {
                Session.due("no process can be " + p, s.x.process(p, what), -1);
            }
        }
        for (int what : new int[] {-1, 4, Integer.MIN_VALUE, Integer.MAX_VALUE}) {
            Session.due("no such number", s.x.process(0, what), -1);
            Session.due("no such number of one that is not there", s.x.process(1, what), -1);
        }
        for (int what = 0; what < 4; what++) {
            Session.due("not there", s.x.process(3, what), 0);
        }
        s.open(0, "/a", 0);
        s.open(0, "/a", 0);
        s.bind(0, "/b", "/a", 2);
        s.mount(0, 1, "/a", 2);
        s.mount(0, 1, "/b", 0);
        Session.due("there", s.x.process(0, 0), 1);
        Session.due("open", s.x.process(0, 1), 2);
        Session.due("places", s.x.process(0, 2), 2);
        Session.due("members", s.x.process(0, 3), 4);
        s.close(0, 0);
        Session.due("open", s.x.process(0, 1), 1);
        s.fork(0, true);
        Session.due("there", s.x.process(1, 0), 1);
        Session.due("nothing open", s.x.process(1, 1), 0);
        Session.due("the places of its name space", s.x.process(1, 2), 2);
        Session.due("and their members", s.x.process(1, 3), 4);
        s.exit(1);
        for (int what = 0; what < 4; what++) {
            Session.due("not there any more", s.x.process(1, what), 0);
        }
        Session.end("promise 18");
    }
}
