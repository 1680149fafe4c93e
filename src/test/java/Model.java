import java.util.ArrayList;
import java.util.Arrays;
import java.util.LinkedHashMap;
import java.util.List;
import java.util.Map;
import java.util.NoSuchElementException;
import java.util.TreeMap;

/**
 * The document once more, in another form (maps, messages as lists of bytes
 * that a server takes apart again, exceptions inside), to be compared with
 * the class by random runs.
 */
final class Model {
    static final class Node {
        int serial;
        char name;
        boolean directory;
        boolean gone;
        int version;
        Node parent;
        final List<Integer> bytes = new ArrayList<>();
        final TreeMap<Integer, Node> inside = new TreeMap<>();

        Node named(char c) {
            return inside.values().stream().filter(n -> n.name == c).findFirst().orElse(null);
        }
    }

    static final class ServerError extends Exception {
        private static final long serialVersionUID = 1L;
        final char letter;

        ServerError(char letter) {
            this.letter = letter;
        }
    }

    static final class FileServer {
        final TreeMap<Integer, Node> handles = new TreeMap<>();
        final Node root = new Node();
        int files = 1;
        int next = 1;
        int messages;

        FileServer() {
            root.directory = true;
        }

        int free() {
            int h = 0;
            while (handles.containsKey(h)) {
                h++;
            }
            return h;
        }

        Node live(int h) throws ServerError {
            Node n = handles.get(h);
            if (n.gone) {
                throw new ServerError('n');
            }
            return n;
        }

        static List<Integer> of(Node n) {
            List<Integer> r = new ArrayList<>(List.of(n.directory ? 1 : 0));
            r.addAll(le(n.version, 4));
            r.addAll(le(n.serial, 4));
            return r;
        }

        /** Takes the bytes behind the tag, gives those of the reply. */
        List<Integer> serve(int type, List<Integer> m) throws ServerError {
            int h = number(m, 0);
            switch (type) {
                case 104:
                    handles.put(h, root);
                    return of(root);
                case 110:
                    return walk(h, m);
                case 112:
                    if (live(h).directory && m.get(4) != 0) {
                        throw new ServerError('p');
                    }
                    return of(live(h));
                case 114:
                    return make(h, (char) (int) m.get(6), m.get(7) == 1);
                case 116:
                    return read(live(h), number(m, 4));
                case 118:
                    return write(live(h), number(m, 4), m.get(8));
                case 120:
                    handles.remove(h);
                    return List.of();
                case 122:
                    Node n = handles.remove(h);
                    if (n.gone) {
                        throw new ServerError('n');
                    }
                    if (n.parent == null || !n.inside.isEmpty()) {
                        throw new ServerError('p');
                    }
                    n.gone = true;
                    n.parent.inside.remove(n.serial);
                    files--;
                    return List.of();
                default:
                    return of(live(h));
            }
        }

        List<Integer> walk(int h, List<Integer> m) throws ServerError {
            int to = number(m, 4);
            if (m.get(8) == 0) {
                handles.put(to, handles.get(h));
                return List.of();
            }
            Node n = live(h);
            if (!n.directory) {
                throw new ServerError('d');
            }
            Node found = n.named((char) (int) m.get(12));
            if (found == null) {
                throw new ServerError('n');
            }
            handles.put(to, found);
            return of(found);
        }

        List<Integer> make(int h, char name, boolean directory) throws ServerError {
            Node in = live(h);
            if (!in.directory) {
                throw new ServerError('d');
            }
            if (in.named(name) != null) {
                throw new ServerError('x');
            }
            if (files == 20) {
                throw new ServerError('f');
            }
            Node n = new Node();
            n.serial = next++;
            n.name = name;
            n.directory = directory;
            n.parent = in;
            in.inside.put(n.serial, n);
            files++;
            handles.put(h, n);
            return of(n);
        }

        static List<Integer> read(Node n, int place) {
            List<Integer> all = new ArrayList<>(n.bytes);
            n.inside.values().forEach(f -> all.add((int) f.name));
            return place < all.size() ? List.of(1, 0, all.get(place)) : List.of(0, 0);
        }

        static List<Integer> write(Node n, int place, int b) throws ServerError {
            if (place == 8) {
                throw new ServerError('f');
            }
            if (place < n.bytes.size()) {
                n.bytes.set(place, b);
            } else {
                n.bytes.add(b);
            }
            n.version++;
            return le(n.bytes.size(), 4);
        }
    }

    record Member(int server, int handle, boolean make) {
        boolean beginning() {
            return server == 0 && handle == 0;
        }
    }

    record FileId(int server, int serial) { }

    static final class Space {
        final Map<FileId, List<Member>> places = new LinkedHashMap<>();
    }

    static final class Opened {
        List<Member> handles;
        boolean single;
        int mode;
        int at;
        int place;
    }

    static final class Proc {
        Space space;
        final Opened[] files = new Opened[5];
    }

    final FileServer[] servers = {new FileServer(), new FileServer()};
    final Proc[] procs = new Proc[4];
    List<Integer> message;
    List<Integer> reply;
    String text = "";
    String kept = "";
    private String names;
    private String keptNames;

    Model() {
        attach(0, 0);
        attach(1, 0);
        procs[0] = new Proc();
        procs[0].space = new Space();
    }

    static List<Integer> le(int value, int size) {
        List<Integer> r = new ArrayList<>();
        for (int i = 0; i < size; i++) {
            r.add((value >> (8 * i)) & 255);
        }
        return r;
    }

    static int number(List<Integer> m, int at) {
        return m.get(at) + 256 * (m.get(at + 1) + 256 * (m.get(at + 2) + 256 * m.get(at + 3)));
    }

    static List<Integer> framed(int type, List<Integer> body) {
        List<Integer> r = le(7 + body.size(), 4);
        r.addAll(List.of(type, 1, 0));
        r.addAll(body);
        return r;
    }

    @SafeVarargs
    private List<Integer> send(int server, int type, List<Integer>... parts) throws ServerError {
        List<Integer> body = new ArrayList<>();
        for (List<Integer> part : parts) {
            body.addAll(part);
        }
        message = framed(type, body);
        servers[server].messages++;
        try {
            List<Integer> answer = servers[server].serve(type, body);
            reply = framed(type + 1, answer);
            return answer;
        } catch (ServerError e) {
            reply = framed(107, List.of(1, 0, (int) e.letter));
            throw e;
        }
    }

    @SafeVarargs
    private List<Integer> sure(int server, int type, List<Integer>... parts) {
        try {
            return send(server, type, parts);
        } catch (ServerError e) {
            throw new AssertionError("an error " + e.letter + " to type " + type);
        }
    }

    private void attach(int server, int handle) {
        sure(server, 104, le(handle, 4));
    }

    private void clunk(Member m) {
        if (!m.beginning()) {
            sure(m.server, 120, le(m.handle, 4));
        }
    }

    private Member clone(Member m) {
        int fresh = servers[m.server].free();
        sure(m.server, 110, le(m.handle, 4), le(fresh, 4), le(0, 2));
        return new Member(m.server, fresh, m.make);
    }

    private FileId id(Member m) {
        return new FileId(m.server, servers[m.server].handles.get(m.handle).serial);
    }

    private boolean isDirectory(Member m) {
        return servers[m.server].handles.get(m.handle).directory;
    }

    private Member walk(Space space, String path) {
        Member at = new Member(0, 0, true);
        for (char name : path.toCharArray()) {
            Member old = at;
            at = null;
            char last = 0;
            for (Member m : space.places.getOrDefault(id(old), List.of(old))) {
                int fresh = servers[m.server].free();
                try {
                    send(m.server, 110, le(m.handle, 4), le(fresh, 4), le(1, 2), le(1, 2), le(name, 1));
                    at = new Member(m.server, fresh, true);
                    break;
                } catch (ServerError e) {
                    last = e.letter;
                }
            }
            clunk(old);
            if (at == null) {
                if (last == 'd') {
                    throw new UnsupportedOperationException();
                }
                throw new NoSuchElementException();
            }
        }
        return at;
    }

    private Member own(Member m) {
        return m.beginning() ? clone(m) : m;
    }

    private Proc there(int p) {
        if (p < 0 || p > 3 || procs[p] == null) {
            throw new IllegalArgumentException();
        }
        return procs[p];
    }

    /** The names that are left of a path, or null. */
    static String meaning(String text) {
        if (text.equals("/")) {
            return "";
        }
        if (!text.matches("(/([a-h]|\\.\\.))+")) {
            return null;
        }
        StringBuilder left = new StringBuilder();
        for (String name : text.substring(1).split("/")) {
            if (!name.equals("..")) {
                left.append(name);
            } else if (left.length() > 0) {
                left.setLength(left.length() - 1);
            }
        }
        return left.toString();
    }

    private Proc begin(int p, boolean argumentsAreRight, boolean needsKept) {
        Proc proc = there(p);
        names = meaning(text);
        keptNames = meaning(kept);
        text = "";
        kept = "";
        if (names == null || !argumentsAreRight || needsKept && keptNames == null) {
            throw new IllegalArgumentException();
        }
        return proc;
    }

    private static int freeNumber(Proc proc) {
        for (int i = 0; i < 5; i++) {
            if (proc.files[i] == null) {
                return i;
            }
        }
        throw new IllegalStateException();
    }

    private static int openFiles(Proc proc) {
        return (int) Arrays.stream(proc.files).filter(f -> f != null).count();
    }

    int type(char c) {
        if (text.length() == 24) {
            throw new IllegalStateException();
        }
        text += c;
        return text.length();
    }

    int keep() {
        kept = text;
        text = "";
        return kept.length();
    }

    int open(int p, int mode) {
        Proc proc = begin(p, mode >= 0 && mode <= 2, false);
        int number = freeNumber(proc);
        Member at = walk(proc.space, names);
        List<Member> all = new ArrayList<>();
        List<Member> members = proc.space.places.get(id(at));
        if (members != null) {
            members.forEach(m -> all.add(clone(m)));
            clunk(at);
        } else {
            all.add(own(at));
        }
        Opened file = new Opened();
        file.single = all.size() == 1;
        file.mode = mode;
        file.handles = new ArrayList<>();
        char last = 0;
        for (Member m : all) {
            try {
                send(m.server, 112, le(m.handle, 4), le(mode, 1));
                file.handles.add(m);
            } catch (ServerError e) {
                last = e.letter;
                clunk(m);
            }
        }
        if (file.handles.isEmpty()) {
            if (last == 'p') {
                throw new UnsupportedOperationException();
            }
            throw new NoSuchElementException();
        }
        proc.files[number] = file;
        return number;
    }

    int create(int p, boolean directory) {
        Proc proc = begin(p, true, false);
        int number = freeNumber(proc);
        if (names.isEmpty()) {
            throw new UnsupportedOperationException();
        }
        char name = names.charAt(names.length() - 1);
        Member at = walk(proc.space, names.substring(0, names.length() - 1));
        Member in = proc.space.places.getOrDefault(id(at), List.of(at)).stream().filter(Member::make).findFirst().orElse(null);
        if (in == null) {
            clunk(at);
            throw new UnsupportedOperationException();
        }
        Member made = clone(in);
        clunk(at);
        try {
            send(made.server, 114, le(made.handle, 4), le(1, 2), le(name, 1), le(directory ? 1 : 0, 1));
        } catch (ServerError e) {
            clunk(made);
            switch (e.letter) {
                case 'f': throw new IllegalStateException();
                case 'n': throw new NoSuchElementException();
                default: throw new UnsupportedOperationException();
            }
        }
        Opened file = new Opened();
        file.handles = List.of(made);
        file.single = true;
        file.mode = directory ? 0 : 2;
        sure(made.server, 112, le(made.handle, 4), le(file.mode, 1));
        proc.files[number] = file;
        return number;
    }

    private Opened opened(int p, int file) {
        Proc proc = there(p);
        if (file < 0 || file > 4 || proc.files[file] == null) {
            throw new IllegalArgumentException();
        }
        return proc.files[file];
    }

    int read(int p, int number) {
        Opened file = opened(p, number);
        if (file.mode == 1) {
            throw new UnsupportedOperationException();
        }
        while (true) {
            Member m = file.handles.get(file.at);
            boolean error = false;
            try {
                List<Integer> got = send(m.server, 116, le(m.handle, 4), le(file.place, 4));
                if (got.get(0) == 1) {
                    file.place++;
                    return got.get(2);
                }
            } catch (ServerError e) {
                error = true;
            }
            if (file.at == file.handles.size() - 1) {
                if (error && file.single) {
                    throw new NoSuchElementException();
                }
                return -1;
            }
            file.at++;
            file.place = 0;
        }
    }

    int write(int p, int number, int b) {
        Opened file = opened(p, number);
        if (b < 0 || b > 255) {
            throw new IllegalArgumentException();
        }
        if (file.mode == 0) {
            throw new UnsupportedOperationException();
        }
        Member m = file.handles.get(file.at);
        try {
            List<Integer> got = send(m.server, 118, le(m.handle, 4), le(file.place, 4), le(b, 1));
            file.place++;
            return number(got, 0);
        } catch (ServerError e) {
            if (e.letter == 'f') {
                throw new IllegalStateException();
            }
            throw new NoSuchElementException();
        }
    }

    int close(int p, int number) {
        opened(p, number).handles.forEach(this::clunk);
        procs[p].files[number] = null;
        return openFiles(procs[p]);
    }

    int remove(int p) {
        Proc proc = begin(p, true, false);
        if (names.isEmpty()) {
            throw new UnsupportedOperationException();
        }
        Member at = walk(proc.space, names);
        int serial = id(at).serial;
        try {
            send(at.server, 122, le(at.handle, 4));
        } catch (ServerError e) {
            throw new UnsupportedOperationException();
        }
        return serial;
    }

    int stat(int p) {
        Proc proc = begin(p, true, false);
        Member at = walk(proc.space, names);
        List<Integer> got = sure(at.server, 124, le(at.handle, 4));
        clunk(at);
        return 100 * at.server + 2 * number(got, 5) + got.get(0);
    }

    private static boolean isHow(int how) {
        return List.of(0, 1, 2, 4, 5, 6).contains(how);
    }

    int bind(int p, int how) {
        Proc proc = begin(p, isHow(how), true);
        Member m = walk(proc.space, keptNames);
        if (!isDirectory(m)) {
            clunk(m);
            throw new UnsupportedOperationException();
        }
        return join(proc.space, own(m), how);
    }

    int mount(int p, int server, int how) {
        Proc proc = begin(p, isHow(how) && (server == 0 || server == 1), false);
        Member m = new Member(server, servers[server].free(), false);
        attach(server, m.handle);
        return join(proc.space, m, how);
    }

    private int join(Space space, Member m, int how) {
        Member at;
        try {
            at = walk(space, names);
        } catch (NoSuchElementException | UnsupportedOperationException e) {
            clunk(m);
            throw e;
        }
        RuntimeException refused = null;
        List<Member> members = space.places.get(id(at));
        if (!isDirectory(at)) {
            refused = new UnsupportedOperationException();
        } else if (members == null ? space.places.size() == 4 : members.size() == 3 && how % 4 != 0) {
            refused = new IllegalStateException();
        }
        if (refused != null) {
            clunk(at);
            clunk(m);
            throw refused;
        }
        Member added = new Member(m.server, m.handle, how >= 4);
        FileId place = id(at);
        if (how % 4 == 0) {
            if (members != null) {
                members.forEach(this::clunk);
            }
            clunk(at);
            space.places.put(place, new ArrayList<>(List.of(added)));
            return 1;
        }
        if (members == null) {
            members = new ArrayList<>(List.of(own(at)));
            space.places.put(place, members);
        } else {
            clunk(at);
        }
        members.add(how % 4 == 1 ? 0 : members.size(), added);
        return members.size();
    }

    int unmount(int p) {
        Proc proc = begin(p, true, false);
        Member at = walk(proc.space, names);
        List<Member> members = proc.space.places.remove(id(at));
        if (members != null) {
            members.forEach(this::clunk);
        }
        clunk(at);
        if (members == null) {
            throw new UnsupportedOperationException();
        }
        return proc.space.places.size();
    }

    int fork(int p, boolean share) {
        Proc proc = there(p);
        for (int i = 0; i < 4; i++) {
            if (procs[i] == null) {
                Proc child = new Proc();
                child.space = proc.space;
                if (!share) {
                    Space copy = new Space();
                    proc.space.places.forEach((place, members) -> copy.places.put(place, new ArrayList<>(members.stream().map(this::clone).toList())));
                    child.space = copy;
                }
                procs[i] = child;
                return i;
            }
        }
        throw new IllegalStateException();
    }

    int exit(int p) {
        Proc proc = there(p);
        if (p == 0) {
            throw new IllegalArgumentException();
        }
        for (int i = 0; i < 5; i++) {
            if (proc.files[i] != null) {
                close(p, i);
            }
        }
        procs[p] = null;
        if (Arrays.stream(procs).noneMatch(o -> o != null && o.space == proc.space)) {
            proc.space.places.values().forEach(members -> members.forEach(this::clunk));
        }
        return (int) Arrays.stream(procs).filter(o -> o != null).count();
    }

    int wire(int which, int i) {
        if (which != 0 && which != 1) {
            return -1;
        }
        List<Integer> bytes = which == 0 ? message : reply;
        if (i == -1) {
            return bytes.size();
        }
        return i >= 0 && i < bytes.size() ? bytes.get(i) : -1;
    }

    int server(int s, int what) {
        if (s < 0 || s > 1 || what < 0 || what > 3) {
            return -1;
        }
        FileServer f = servers[s];
        return new int[] {f.messages, f.handles.size(), f.files, f.next}[what];
    }

    int process(int p, int what) {
        if (p < 0 || p > 3 || what < 0 || what > 3) {
            return -1;
        }
        Proc proc = procs[p];
        if (proc == null) {
            return 0;
        }
        int members = proc.space.places.values().stream().mapToInt(List::size).sum();
        return new int[] {1, openFiles(proc), proc.space.places.size(), members}[what];
    }
}
