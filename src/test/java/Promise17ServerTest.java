public final class Promise17ServerTest {
    public static void main(String[] args) {
        Session s = new Session();
        for (int server : new int[] {-1, 2, Integer.MIN_VALUE, Integer.MAX_VALUE}) {
            for (int what = 0; what < 4; what++) {
                Session.due("no server", s.x.server(server, what), -1);
            }
        }
        for (int what : new int[] {-1, 4, Integer.MIN_VALUE, Integer.MAX_VALUE}) {
            Session.due("no such number", s.x.server(0, what), -1);
            Session.due("no such number", s.x.server(1, what), -1);
        }
        s.directory(0, "/a");
        Session.due("messages", s.x.server(0, 0), 4);
        Session.due("handles", s.x.server(0, 1), 2);
        Session.due("files", s.x.server(0, 2), 2);
        Session.due("next serial", s.x.server(0, 3), 2);
        s.remove(0, "/a");
        Session.due("messages", s.x.server(0, 0), 6);
        Session.due("a handle of a file that is gone stands for something", s.x.server(0, 1), 2);
        Session.due("a file that is gone is none", s.x.server(0, 2), 1);
        Session.due("next serial", s.x.server(0, 3), 2);
        Session.due("the other server has had nothing", s.x.server(1, 0), 1);
        s.mount(0, 1, "/", 4);
        s.file(0, "/a");
        Session.due("attach, walk, create, open", s.x.server(1, 0), 5);
        Session.due("handles", s.x.server(1, 1), 3);
        Session.due("files", s.x.server(1, 2), 2);
        Session.due("next serial", s.x.server(1, 3), 2);
        Session.due("the first has had nothing", s.x.server(0, 0), 6);
        Session.end("promise 17");
    }
}
