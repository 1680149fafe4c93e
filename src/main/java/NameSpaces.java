import java.util.NoSuchElementException;

/**
 * Processes that each see files by a name space of their own, over two file
 * servers which a kernel (this class) speaks with in messages.
 */
public final class NameSpaces {
    private static final int MOST_TYPED = 24;
    private static final int MOST_NAMES = 12;
    private static final int MOST_PROCESSES = 4;
    private static final int MOST_OPEN = 5;
    private static final int MOST_PLACES = 4;
    private static final int MOST_MEMBERS = 3;
    private static final int MOST_FILES = 20;
    private static final int MOST_BYTES = 8;
    /* Far above the 48 members of four name spaces, the 60 handles of twenty
       open files, the beginning, and the few that one call walks to. */
    private static final int MOST_HANDLES = 128;

    private static final int ATTACH = 104;
    private static final int ERROR = 107;
    private static final int WALK = 110;
    private static final int OPEN = 112;
    private static final int CREATE = 114;
    private static final int READ = 116;
    private static final int WRITE = 118;
    private static final int CLUNK = 120;
    private static final int REMOVE = 122;
    private static final int STAT = 124;

    private static final int READING = 0;
    private static final int WRITING = 1;
    private static final int BOTH = 2;

    /* How many, type and tag stand before what differs. */
    private static final int HEAD = 7;
    private static final int TAG = 1;
    private static final int READ_BYTE = 9;
    private static final int REPLIED_SERIAL = 12;
    private static final int LONGEST_MESSAGE = 20;

    private static final char NO_ERROR = 0;
    private static final char NO_NAME = 0;
    private static final int NOTHING = -1;

    private final Server[] servers = {new Server(), new Server()};
    private final NameSpace[] spaces = new NameSpace[MOST_PROCESSES];
    private final Proc[] procs = new Proc[MOST_PROCESSES];
    private final Text text = new Text();
    private final Text kept = new Text();
    private final Path textPath = new Path();
    private final Path keptPath = new Path();
    /* The one handle where a walk stands, in the form of a place's members,
       so that one way of walking serves both. */
    private final Handles here = new Handles();
    private int latest;
    private int atServer;
    private int atHandle;
    private int atSerial;
    private boolean atDirectory;

    public NameSpaces() {
        for (int i = 0; i < MOST_PROCESSES; i++) {
            spaces[i] = new NameSpace();
            procs[i] = new Proc();
        }
        procs[0].space = spaces[0];
        spaces[0].users = 1;
    }

    public int type(char c) throws IllegalStateException {
        if (!text.append(c)) {
            throw new IllegalStateException("the text is full");
        }
        return text.length;
    }

    public int keep() {
        kept.copyFrom(text);
        text.length = 0;
        return kept.length;
    }

    public int open(int p, int mode) throws IllegalArgumentException, IllegalStateException, NoSuchElementException, UnsupportedOperationException {
        Proc proc = takePaths(p);
        if (!textPath.proper || mode < READING || mode > BOTH) {
            throw new IllegalArgumentException("no path, or no mode");
        }
        int number = proc.leastFree();
        OpenFile file = rowFor(proc, number);
        walkOrRefuse(proc.space, textPath, textPath.count);
        takeHandles(proc.space, file);
        char error = openHandles(file.handles, mode);
        if (file.handles.count == 0) {
            refuseOpening(error);
        }
        file.begin(mode);
        return number;
    }

    public int create(int p, boolean directory) throws IllegalArgumentException, IllegalStateException, NoSuchElementException, UnsupportedOperationException {
        Proc proc = takePaths(p);
        if (!textPath.proper) {
            throw new IllegalArgumentException("no path");
        }
        int number = proc.leastFree();
        OpenFile file = rowFor(proc, number);
        if (textPath.count == 0) {
            throw new UnsupportedOperationException("the path is /");
        }
        walkOrRefuse(proc.space, textPath, textPath.count - 1);
        makeFile(proc.space, file, directory);
        file.begin(directory ? READING : BOTH);
        return number;
    }

    public int read(int p, int file) throws IllegalArgumentException, UnsupportedOperationException, NoSuchElementException {
        OpenFile opened = openedFile(p, file);
        if (opened.mode == WRITING) {
            throw new UnsupportedOperationException("open for writing alone");
        }
        char error = NO_ERROR;
        boolean more = true;
        for (int tries = 0; more && tries < MOST_MEMBERS; tries++) {
            Server server = to(opened.serverNow());
            error = server.tellByte(opened.handleNow(), opened.place);
            int got = error == NO_ERROR ? server.replied.byteAt(READ_BYTE) : NOTHING;
            if (got != NOTHING) {
                opened.place++;
                return got;
            }
            more = opened.goOn();
        }
        if (error != NO_ERROR && opened.everHad == 1) {
            throw new NoSuchElementException("the file is gone");
        }
        return NOTHING;
    }

    public int write(int p, int file, int b) throws IllegalArgumentException, IllegalStateException, NoSuchElementException, UnsupportedOperationException {
        OpenFile opened = openedFile(p, file);
        if (b < 0 || b > 255) {
            throw new IllegalArgumentException("no byte");
        }
        if (opened.mode == READING) {
            throw new UnsupportedOperationException("open for reading alone");
        }
        Server server = to(opened.serverNow());
        char error = server.putByte(opened.handleNow(), opened.place, b);
        if (error == 'f') {
            throw new IllegalStateException("the file is full");
        }
        if (error != NO_ERROR) {
            throw new NoSuchElementException("the file is gone");
        }
        opened.place++;
        return server.replied.number(HEAD);
    }

    public int close(int p, int file) throws IllegalArgumentException {
        Proc proc = processOf(p);
        closeFile(openedFile(p, file));
        return proc.openFiles();
    }

    public int remove(int p) throws IllegalArgumentException, NoSuchElementException, UnsupportedOperationException {
        Proc proc = takePaths(p);
        if (!textPath.proper) {
            throw new IllegalArgumentException("no path");
        }
        if (textPath.count == 0) {
            throw new UnsupportedOperationException("the path is /");
        }
        walkOrRefuse(proc.space, textPath, textPath.count);
        char error = to(atServer).dropFile(atHandle);
        if (error != NO_ERROR) {
            throw new UnsupportedOperationException("the file has to stay");
        }
        return atSerial;
    }

    public int stat(int p) throws IllegalArgumentException, NoSuchElementException, UnsupportedOperationException {
        Proc proc = takePaths(p);
        if (!textPath.proper) {
            throw new IllegalArgumentException("no path");
        }
        walkOrRefuse(proc.space, textPath, textPath.count);
        Server server = to(atServer);
        server.tellFile(atHandle);
        int directory = server.replied.byteAt(HEAD);
        int serial = server.replied.number(REPLIED_SERIAL);
        letGo(atServer, atHandle);
        return 100 * atServer + 2 * serial + directory;
    }

    public int bind(int p, int how) throws IllegalArgumentException, IllegalStateException, NoSuchElementException, UnsupportedOperationException {
        Proc proc = takePaths(p);
        if (!textPath.proper || !keptPath.proper || !isHow(how)) {
            throw new IllegalArgumentException("no path, or no way to bind");
        }
        walkOrRefuse(proc.space, keptPath, keptPath.count);
        if (!atDirectory) {
            letGo(atServer, atHandle);
            throw new UnsupportedOperationException("what is bound is no directory");
        }
        int member = ownHandle();
        return join(proc.space, atServer, member, how);
    }

    public int mount(int p, int server, int how) throws IllegalArgumentException, IllegalStateException, NoSuchElementException, UnsupportedOperationException {
        Proc proc = takePaths(p);
        if (!textPath.proper || !isServer(server) || !isHow(how)) {
            throw new IllegalArgumentException("no path, no server, or no way to mount");
        }
        Server mounted = to(server);
        int member = mounted.newHandle();
        mounted.attach(member);
        return join(proc.space, server, member, how);
    }

    public int unmount(int p) throws IllegalArgumentException, NoSuchElementException, UnsupportedOperationException {
        Proc proc = takePaths(p);
        if (!textPath.proper) {
            throw new IllegalArgumentException("no path");
        }
        walkOrRefuse(proc.space, textPath, textPath.count);
        int index = proc.space.indexOf(atServer, atSerial);
        Place place = proc.space.placeAt(index);
        if (place == null) {
            letGo(atServer, atHandle);
            throw new UnsupportedOperationException("no place");
        }
        clunkAll(place.members);
        letGo(atServer, atHandle);
        proc.space.dropPlace(index);
        return proc.space.count;
    }

    public int fork(int p, boolean share) throws IllegalArgumentException, IllegalStateException {
        Proc parent = processOf(p);
        int number = leastAbsent();
        NameSpace space = share ? parent.space : unusedSpace();
        if (number < 0 || space == null) {
            throw new IllegalStateException("four processes are there");
        }
        if (!share) {
            copySpace(parent.space, space);
        }
        procs[number].begin(space);
        return number;
    }

    public int exit(int p) throws IllegalArgumentException {
        Proc proc = processOf(p);
        if (p == 0) {
            throw new IllegalArgumentException("process 0 stays");
        }
        for (int i = 0; i < MOST_OPEN; i++) {
            if (proc.files[i].inUse) {
                closeFile(proc.files[i]);
            }
        }
        NameSpace space = proc.space;
        proc.end();
        if (space.users == 0) {
            emptySpace(space);
        }
        return processes();
    }

    public int wire(int which, int i) {
        Server server = servers[latest];
        if (which == 0) {
            return server.asked.byteOrLength(i);
        }
        return which == 1 ? server.replied.byteOrLength(i) : NOTHING;
    }

    public int server(int s, int what) {
        if (!isServer(s)) {
            return NOTHING;
        }
        Server one = servers[s];
        switch (what) {
            case 0:
                return one.asked.begun;
            case 1:
                return one.handlesInUse();
            case 2:
                return one.fileCount;
            case 3:
                return one.nextSerial;
            default:
                return NOTHING;
        }
    }

    public int process(int p, int what) {
        if (p < 0 || p >= MOST_PROCESSES || what < 0 || what > 3) {
            return NOTHING;
        }
        Proc proc = procs[p];
        NameSpace space = proc.space;
        if (space == null) {
            return 0;
        }
        switch (what) {
            case 0:
                return 1;
            case 1:
                return proc.openFiles();
            case 2:
                return space.count;
            default:
                return space.members();
        }
    }

    private static boolean isServer(int s) {
        return s == 0 || s == 1;
    }

    private static boolean isHow(int how) {
        return how >= 0 && how <= 6 && how % 4 != 3;
    }

    private static boolean isBeginning(int s, int handle) {
        return s == 0 && handle == 0;
    }

    private Server to(int s) {
        latest = s == 1 ? 1 : 0;
        return servers[latest];
    }

    private Proc processOf(int p) {
        if (p < 0 || p >= MOST_PROCESSES || procs[p].space == null) {
            throw new IllegalArgumentException("no such process");
        }
        return procs[p];
    }

    private OpenFile openedFile(int p, int file) {
        Proc proc = processOf(p);
        if (file < 0 || file >= MOST_OPEN || !proc.files[file].inUse) {
            throw new IllegalArgumentException("no such open file");
        }
        return proc.files[file];
    }

    private static OpenFile rowFor(Proc proc, int number) {
        if (number < 0 || number >= MOST_OPEN) {
            throw new IllegalStateException("five files are open");
        }
        return proc.files[number];
    }

    /* Both texts go once the process is known, whatever is thrown after it. */
    private Proc takePaths(int p) {
        Proc proc = processOf(p);
        textPath.readFrom(text);
        keptPath.readFrom(kept);
        text.length = 0;
        kept.length = 0;
        return proc;
    }

    private static void refuseWalk(char error) {
        if (error == 'd') {
            throw new UnsupportedOperationException("no directory");
        }
        throw new NoSuchElementException("no file of that name");
    }

    private static void refuseOpening(char error) {
        if (error == 'p') {
            throw new UnsupportedOperationException("a directory is only read");
        }
        throw new NoSuchElementException("the file is gone");
    }

    private static void refuseMaking(char error) {
        if (error == 'f') {
            throw new IllegalStateException("the server is full");
        }
        if (error == 'n') {
            throw new NoSuchElementException("the directory is gone");
        }
        throw new UnsupportedOperationException("no directory, or the name is taken");
    }

    private void walkOrRefuse(NameSpace space, Path path, int names) {
        char error = walkNames(space, path, names);
        if (error != NO_ERROR) {
            refuseWalk(error);
        }
    }

    private char walkNames(NameSpace space, Path path, int names) {
        atServer = 0;
        atHandle = 0;
        atSerial = 0;
        atDirectory = true;
        char error = NO_ERROR;
        for (int i = 0; i < names && error == NO_ERROR; i++) {
            int oldServer = atServer;
            int oldHandle = atHandle;
            error = walkFirst(standing(space), path.name(i));
            letGo(oldServer, oldHandle);
        }
        return error;
    }

    private Handles standing(NameSpace space) {
        Place place = space.placeAt(space.indexOf(atServer, atSerial));
        if (place != null) {
            return place.members;
        }
        here.count = 0;
        here.insert(0, atServer, atHandle, true);
        return here;
    }

    /* Moves to the file of that name in the first of the handles that has it. */
    private char walkFirst(Handles from, char name) {
        char error = 'n';
        for (int i = 0; i < from.count; i++) {
            int s = from.serverAt(i);
            Server server = to(s);
            int fresh = server.newHandle();
            error = server.walkName(from.handleAt(i), fresh, name);
            if (error == NO_ERROR) {
                atServer = s;
                atHandle = fresh;
                atSerial = server.replied.number(REPLIED_SERIAL);
                atDirectory = server.replied.byteAt(HEAD) == 1;
                return NO_ERROR;
            }
        }
        return error;
    }

    private void letGo(int s, int handle) {
        if (!isBeginning(s, handle)) {
            to(s).clunk(handle);
        }
    }

    /* Members and handles of open files, of which none is the beginning. */
    private void clunkAll(Handles handles) {
        for (int i = 0; i < handles.count; i++) {
            to(handles.serverAt(i)).clunk(handles.handleAt(i));
        }
    }

    /* What was walked to, to be kept: the beginning itself is nobody's own. */
    private int ownHandle() {
        return isBeginning(atServer, atHandle) ? to(atServer).walkSame(atHandle) : atHandle;
    }

    private void takeHandles(NameSpace space, OpenFile file) {
        Handles taken = file.handles;
        taken.count = 0;
        if (space.indexOf(atServer, atSerial) < 0) {
            taken.insert(0, atServer, ownHandle(), false);
        } else {
            copyHandles(standing(space), taken);
            letGo(atServer, atHandle);
        }
        file.everHad = taken.count;
    }

    private void copyHandles(Handles from, Handles copy) {
        for (int i = 0; i < from.count; i++) {
            int s = from.serverAt(i);
            copy.insert(copy.count, s, to(s).walkSame(from.handleAt(i)), from.mayMake(i));
        }
    }

    /* The last error; only the handles without one are left. */
    private char openHandles(Handles handles, int mode) {
        char last = NO_ERROR;
        int all = handles.count;
        int left = 0;
        for (int i = 0; i < all; i++) {
            int s = handles.serverAt(left);
            int handle = handles.handleAt(left);
            char error = to(s).openFile(handle, mode);
            if (error == NO_ERROR) {
                left++;
            } else {
                last = error;
                letGo(s, handle);
                handles.delete(left);
            }
        }
        return last;
    }

    private void makeFile(NameSpace space, OpenFile file, boolean directory) {
        Handles from = standing(space);
        int maker = from.firstMaker();
        if (maker < 0) {
            letGo(atServer, atHandle);
            throw new UnsupportedOperationException("files may be made in no member");
        }
        int s = from.serverAt(maker);
        int handle = to(s).walkSame(from.handleAt(maker));
        letGo(atServer, atHandle);
        char error = to(s).makeFile(handle, textPath.name(textPath.count - 1), directory);
        if (error != NO_ERROR) {
            letGo(s, handle);
            refuseMaking(error);
        }
        to(s).openFile(handle, directory ? READING : BOTH);
        file.handles.count = 0;
        file.handles.insert(0, s, handle, false);
        file.everHad = 1;
    }

    private void closeFile(OpenFile file) {
        clunkAll(file.handles);
        file.inUse = false;
    }

    /* Binds the member (server and handle) at the text's path. */
    private int join(NameSpace space, int memberServer, int member, int how) {
        char error = walkNames(space, textPath, textPath.count);
        if (error != NO_ERROR) {
            letGo(memberServer, member);
            refuseWalk(error);
        }
        Place place = space.placeAt(space.indexOf(atServer, atSerial));
        boolean alone = how % 4 == 0;
        boolean full = place == null ? space.count >= MOST_PLACES : !alone && place.members.count >= MOST_MEMBERS;
        if (!atDirectory || full) {
            letGo(atServer, atHandle);
            letGo(memberServer, member);
            refuseJoining(atDirectory);
        }
        Handles members = place == null ? newMembers(space, alone) : oldMembers(place, alone);
        members.insert(how % 4 == 1 ? 0 : members.count, memberServer, member, how / 4 == 1);
        return members.count;
    }

    private static void refuseJoining(boolean directory) {
        if (directory) {
            throw new IllegalStateException("too many places or members");
        }
        throw new UnsupportedOperationException("the place is no directory");
    }

    private Handles newMembers(NameSpace space, boolean alone) {
        Handles members = space.addPlace(atServer, atSerial);
        if (alone) {
            letGo(atServer, atHandle);
        } else {
            members.insert(0, atServer, ownHandle(), true);
        }
        return members;
    }

    private Handles oldMembers(Place place, boolean alone) {
        if (alone) {
            clunkAll(place.members);
            place.members.count = 0;
        }
        letGo(atServer, atHandle);
        return place.members;
    }

    private int leastAbsent() {
        for (int i = 0; i < MOST_PROCESSES; i++) {
            if (procs[i].space == null) {
                return i;
            }
        }
        return NOTHING;
    }

    private int processes() {
        int there = 0;
        for (int i = 0; i < MOST_PROCESSES; i++) {
            if (procs[i].space != null) {
                there++;
            }
        }
        return there;
    }

    private NameSpace unusedSpace() {
        for (int i = 0; i < MOST_PROCESSES; i++) {
            if (spaces[i].users == 0) {
                return spaces[i];
            }
        }
        return null;
    }

    private void copySpace(NameSpace from, NameSpace copy) {
        copy.count = 0;
        for (int i = 0; i < from.count; i++) {
            Place place = from.placeAt(i);
            if (place != null) {
                copyHandles(place.members, copy.addPlace(place.server, place.serial));
            }
        }
    }

    private void emptySpace(NameSpace space) {
        for (int i = 0; i < space.count; i++) {
            Place place = space.placeAt(i);
            if (place != null) {
                clunkAll(place.members);
            }
        }
        space.count = 0;
    }

    /** Characters as they are typed. */
    private static final class Text {
        final char[] typed = new char[MOST_TYPED];
        int length;

        boolean append(char c) {
            if (length >= MOST_TYPED) {
                return false;
            }
            typed[length] = c;
            length++;
            return true;
        }

        /* Behind the end stands a character that is in no path. */
        char character(int i) {
            return i >= 0 && i < length && i < MOST_TYPED ? typed[i] : 0;
        }

        void copyFrom(Text other) {
            System.arraycopy(other.typed, 0, typed, 0, MOST_TYPED);
            length = other.length;
        }
    }

    /** What a text means as a path: the names that are left to be walked. */
    private static final class Path {
        final char[] names = new char[MOST_NAMES];
        int count;
        boolean proper;

        void readFrom(Text text) {
            count = 0;
            proper = text.length > 0;
            boolean root = text.length == 1 && text.character(0) == '/';
            int i = root ? 1 : 0;
            while (proper && i < text.length) {
                char first = text.character(i + 1);
                if (text.character(i) != '/') {
                    proper = false;
                } else if (first >= 'a' && first <= 'h') {
                    push(first);
                    i += 2;
                } else if (first == '.' && text.character(i + 2) == '.') {
                    count = Math.max(0, count - 1);
                    i += 3;
                } else {
                    proper = false;
                }
            }
        }

        void push(char name) {
            if (count < MOST_NAMES) {
                names[count] = name;
                count++;
            }
        }

        char name(int i) {
            return i >= 0 && i < count && i < MOST_NAMES ? names[i] : NO_NAME;
        }
    }

    /** The bytes of the latest message or reply, and how many there were. */
    private static final class Message {
        final int[] bytes = new int[LONGEST_MESSAGE];
        int length;
        int begun;

        /* No message is so long that bytes 1 to 3 of the head would change. */
        void begin(int type) {
            begun++;
            length = HEAD;
            bytes[0] = HEAD;
            bytes[4] = type;
            bytes[5] = TAG;
        }

        /* The lowest byte first; byte 0 tells how many there are so far. */
        void put(int value, int size) {
            for (int k = 0; k < size && length < LONGEST_MESSAGE; k++) {
                bytes[length] = (value >>> (8 * k)) & 255;
                length++;
            }
            bytes[0] = length;
        }

        int byteAt(int i) {
            return i >= 0 && i < length && i < LONGEST_MESSAGE ? bytes[i] : NOTHING;
        }

        int byteOrLength(int i) {
            return i == -1 ? length : byteAt(i);
        }

        /* The number of four bytes that begins there. */
        int number(int i) {
            int value = 0;
            for (int k = 3; k >= 0; k--) {
                value = (value << 8) | (byteAt(i + k) & 255);
            }
            return value;
        }
    }

    /** A file or directory of a server. */
    private static final class TreeFile {
        final int serial;
        final int parent;
        final char name;
        final boolean directory;
        final int[] bytes;
        int size;
        int version;
        boolean gone;

        TreeFile(int serial, int parent, char name, boolean directory) {
            this.serial = serial;
            this.parent = parent;
            this.name = name;
            this.directory = directory;
            this.bytes = new int[directory ? 0 : MOST_BYTES];
        }

        int byteAtPlace(int place) {
            return place >= 0 && place < size && place < bytes.length ? bytes[place] : NOTHING;
        }
    }

    /** A file server: each method with a message answers its error letter. */
    private static final class Server {
        final Message asked = new Message();
        final Message replied = new Message();
        /* In the order of their serials, without gaps. */
        final TreeFile[] files = new TreeFile[MOST_FILES];
        final TreeFile[] handles = new TreeFile[MOST_HANDLES];
        int fileCount = 1;
        int nextSerial = 1;

        Server() {
            files[0] = new TreeFile(0, NOTHING, NO_NAME, true);
            attach(0);
        }

        int newHandle() {
            for (int i = 0; i < MOST_HANDLES; i++) {
                if (handles[i] == null) {
                    return i;
                }
            }
            return NOTHING;
        }

        int handlesInUse() {
            int used = 0;
            for (int i = 0; i < MOST_HANDLES; i++) {
                if (handles[i] != null) {
                    used++;
                }
            }
            return used;
        }

        void attach(int handle) {
            ask(ATTACH, handle);
            stand(handle, files[0]);
            describe(ATTACH, files[0]);
        }

        /* Without a name there are no errors: the answer is the new handle. */
        int walkSame(int handle) {
            int fresh = newHandle();
            ask(WALK, handle);
            asked.put(fresh, 4);
            asked.put(0, 2);
            stand(fresh, fileOf(handle));
            agree(WALK);
            return fresh;
        }

        char walkName(int handle, int fresh, char name) {
            ask(WALK, handle);
            asked.put(fresh, 4);
            asked.put(1, 2);
            asked.put(1, 2);
            asked.put(name, 1);
            TreeFile file = fileOf(handle);
            if (file == null || file.gone) {
                return refuse('n');
            }
            if (!file.directory) {
                return refuse('d');
            }
            TreeFile found = fileIn(file, name);
            if (found == null) {
                return refuse('n');
            }
            stand(fresh, found);
            return describe(WALK, found);
        }

        char openFile(int handle, int mode) {
            ask(OPEN, handle);
            asked.put(mode, 1);
            TreeFile file = fileOf(handle);
            if (file == null || file.gone) {
                return refuse('n');
            }
            if (file.directory && mode != READING) {
                return refuse('p');
            }
            return describe(OPEN, file);
        }

        char makeFile(int handle, char name, boolean directory) {
            ask(CREATE, handle);
            asked.put(1, 2);
            asked.put(name, 1);
            asked.put(directory ? 1 : 0, 1);
            TreeFile in = fileOf(handle);
            if (in == null || in.gone) {
                return refuse('n');
            }
            if (!in.directory) {
                return refuse('d');
            }
            if (fileIn(in, name) != null) {
                return refuse('x');
            }
            if (fileCount >= MOST_FILES) {
                return refuse('f');
            }
            TreeFile made = new TreeFile(nextSerial, in.serial, name, directory);
            files[fileCount] = made;
            fileCount++;
            nextSerial++;
            stand(handle, made);
            return describe(CREATE, made);
        }

        char tellByte(int handle, int place) {
            ask(READ, handle);
            asked.put(place, 4);
            TreeFile file = fileOf(handle);
            if (file == null || file.gone) {
                return refuse('n');
            }
            int got = file.directory ? letterIn(file, place) : file.byteAtPlace(place);
            agree(READ);
            replied.put(got == NOTHING ? 0 : 1, 2);
            if (got != NOTHING) {
                replied.put(got, 1);
            }
            return NO_ERROR;
        }

        char putByte(int handle, int place, int b) {
            ask(WRITE, handle);
            asked.put(place, 4);
            asked.put(b, 1);
            TreeFile file = fileOf(handle);
            if (file == null || file.gone) {
                return refuse('n');
            }
            if (place < 0 || place >= file.bytes.length) {
                return refuse('f');
            }
            file.bytes[place] = b;
            file.size = Math.max(file.size, place + 1);
            file.version++;
            agree(WRITE);
            replied.put(file.size, 4);
            return NO_ERROR;
        }

        void clunk(int handle) {
            ask(CLUNK, handle);
            stand(handle, null);
            agree(CLUNK);
        }

        char dropFile(int handle) {
            ask(REMOVE, handle);
            TreeFile file = fileOf(handle);
            stand(handle, null);
            if (file == null || file.gone) {
                return refuse('n');
            }
            if (file.serial == 0 || letterIn(file, 0) != NOTHING) {
                return refuse('p');
            }
            file.gone = true;
            forget(file.serial);
            return agree(REMOVE);
        }

        char tellFile(int handle) {
            ask(STAT, handle);
            TreeFile file = fileOf(handle);
            if (file == null || file.gone) {
                return refuse('n');
            }
            return describe(STAT, file);
        }

        void ask(int type, int handle) {
            asked.begin(type);
            asked.put(handle, 4);
        }

        char agree(int type) {
            replied.begin(type + 1);
            return NO_ERROR;
        }

        char describe(int type, TreeFile file) {
            replied.begin(type + 1);
            replied.put(file.directory ? 1 : 0, 1);
            replied.put(file.version, 4);
            replied.put(file.serial, 4);
            return NO_ERROR;
        }

        char refuse(char letter) {
            replied.begin(ERROR);
            replied.put(1, 2);
            replied.put(letter, 1);
            return letter;
        }

        TreeFile fileOf(int handle) {
            return handle >= 0 && handle < MOST_HANDLES ? handles[handle] : null;
        }

        void stand(int handle, TreeFile file) {
            if (handle >= 0 && handle < MOST_HANDLES) {
                handles[handle] = file;
            }
        }

        TreeFile fileIn(TreeFile directory, char name) {
            for (int i = 0; i < fileCount; i++) {
                if (files[i].parent == directory.serial && files[i].name == name) {
                    return files[i];
                }
            }
            return null;
        }

        int letterIn(TreeFile directory, int place) {
            int before = 0;
            for (int i = 0; i < fileCount; i++) {
                if (files[i].parent == directory.serial) {
                    if (before == place) {
                        return files[i].name;
                    }
                    before++;
                }
            }
            return NOTHING;
        }

        void forget(int serial) {
            int left = 0;
            for (int i = 0; i < fileCount; i++) {
                if (files[i].serial != serial) {
                    files[left] = files[i];
                    left++;
                }
            }
            fileCount = left;
        }
    }

    /** Up to three handles in their order, each of a server. */
    private static final class Handles {
        final int[] servers = new int[MOST_MEMBERS];
        final int[] handles = new int[MOST_MEMBERS];
        final boolean[] makers = new boolean[MOST_MEMBERS];
        int count;

        void insert(int at, int server, int handle, boolean maker) {
            if (at < 0 || at > count || count >= MOST_MEMBERS) {
                return;
            }
            for (int i = count; i > at; i--) {
                servers[i] = servers[i - 1];
                handles[i] = handles[i - 1];
                makers[i] = makers[i - 1];
            }
            servers[at] = server;
            handles[at] = handle;
            makers[at] = maker;
            count++;
        }

        void delete(int at) {
            if (at < 0 || at >= count) {
                return;
            }
            for (int i = at; i + 1 < count; i++) {
                servers[i] = servers[i + 1];
                handles[i] = handles[i + 1];
                makers[i] = makers[i + 1];
            }
            count--;
        }

        int serverAt(int i) {
            return i >= 0 && i < count ? servers[i] : NOTHING;
        }

        int handleAt(int i) {
            return i >= 0 && i < count ? handles[i] : NOTHING;
        }

        boolean mayMake(int i) {
            return i >= 0 && i < count && makers[i];
        }

        int firstMaker() {
            for (int i = 0; i < count; i++) {
                if (makers[i]) {
                    return i;
                }
            }
            return NOTHING;
        }
    }

    /** A file at which directories are bound. */
    private static final class Place {
        final Handles members = new Handles();
        int server;
        int serial;
    }

    /** Places in the order in which they were made. */
    private static final class NameSpace {
        final Place[] places = new Place[MOST_PLACES];
        int count;
        int users;

        NameSpace() {
            for (int i = 0; i < MOST_PLACES; i++) {
                places[i] = new Place();
            }
        }

        int indexOf(int server, int serial) {
            for (int i = 0; i < count; i++) {
                if (places[i].server == server && places[i].serial == serial) {
                    return i;
                }
            }
            return NOTHING;
        }

        Place placeAt(int i) {
            return i >= 0 && i < count ? places[i] : null;
        }

        /* The caller has asked whether there is room for it. */
        Handles addPlace(int server, int serial) {
            int at = Math.min(count, MOST_PLACES - 1);
            Place place = places[at];
            place.members.count = 0;
            place.server = server;
            place.serial = serial;
            count = at + 1;
            return place.members;
        }

        /* The row goes behind the others, to be used again. */
        void dropPlace(int at) {
            if (at < 0 || at >= count) {
                return;
            }
            Place dropped = places[at];
            for (int i = at; i + 1 < count; i++) {
                places[i] = places[i + 1];
            }
            places[count - 1] = dropped;
            count--;
        }

        int members() {
            int all = 0;
            for (int i = 0; i < count; i++) {
                all += places[i].members.count;
            }
            return all;
        }
    }

    /** An open file of a process, or a free row for one. */
    private static final class OpenFile {
        final Handles handles = new Handles();
        boolean inUse;
        /* With the handles that got an error when they were opened. */
        int everHad;
        int mode;
        int at;
        int place;

        void begin(int newMode) {
            inUse = true;
            mode = newMode;
            at = 0;
            place = 0;
        }

        int serverNow() {
            return handles.serverAt(at);
        }

        int handleNow() {
            return handles.handleAt(at);
        }

        /* Whether there was a next handle. */
        boolean goOn() {
            if (at + 1 >= handles.count) {
                return false;
            }
            at++;
            place = 0;
            return true;
        }
    }

    /** A process, or, without a name space, the row for one. */
    private static final class Proc {
        final OpenFile[] files = new OpenFile[MOST_OPEN];
        NameSpace space;

        Proc() {
            for (int i = 0; i < MOST_OPEN; i++) {
                files[i] = new OpenFile();
            }
        }

        void begin(NameSpace own) {
            space = own;
            own.users++;
        }

        void end() {
            if (space != null) {
                space.users--;
            }
            space = null;
        }

        int leastFree() {
            for (int i = 0; i < MOST_OPEN; i++) {
                if (!files[i].inUse) {
                    return i;
                }
            }
            return NOTHING;
        }

        int openFiles() {
            int open = 0;
            for (int i = 0; i < MOST_OPEN; i++) {
                if (files[i].inUse) {
                    open++;
                }
            }
            return open;
        }
    }
}
