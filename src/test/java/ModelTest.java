import java.util.Random;
import java.util.function.IntSupplier;

/** Random runs within the calls that an object has, each answer compared with the model's. */
public final class ModelTest {
    private static final String[] WRONG = {
        "", "//", "/a/", "a", "/i", "/.", "/...", "/a/.", "/ab", "/A", "/a//b", "..", "/a..", "/..a", "/a\u0161",
    };

    /* Enough for all that can be asked at the end of a run, and for the longest step before it. */
    private static final int CALLS_KEPT_BACK = 150;

    private final Random random;
    private final Counted x = new Counted();
    private final Model model = new Model();
    private final StringBuilder log = new StringBuilder();
    /* Few letters make a deep tree that is met again, many fill a server. */
    private final int letters;

    private ModelTest(long seed) {
        random = new Random(seed);
        letters = random.nextInt(3) == 0 ? 8 : 2;
    }

    public static void main(String[] args) {
        for (int seed = 0; seed < 12000; seed++) {
            new ModelTest(seed).run(seed);
        }
        Session.end("ModelTest");
    }

    /* Runs of every length, so that all is asked after any kind of step. */
    private void run(int seed) {
        for (String path : new String[] {"/a", "/b", "/a/b"}) {
            typeText(seed, path);
            compare(seed, "create 0 true", () -> x.create(0, true), () -> model.create(0, true));
            compare(seed, "close 0 0", () -> x.close(0, 0), () -> model.close(0, 0));
        }
        int spared = CALLS_KEPT_BACK + random.nextInt(Counted.MOST_CALLS - CALLS_KEPT_BACK - 20);
        while (x.callsLeft() > spared) {
            step(seed);
            glance(seed);
        }
        everything(seed);
    }

    private void compare(int seed, String call, IntSupplier own, IntSupplier other) {
        log.append(call).append('\n');
        int got = Session.answer(own);
        int want = Session.answer(other);
        if (got != want) {
            System.out.println("seed " + seed + ":\n" + log);
        }
        Session.due("seed " + seed + ": " + call, got, want);
        if (got != want) {
            Session.end("ModelTest");
        }
    }

    private void wire(int seed, int which, int i) {
        compare(seed, "wire " + which + " " + i, () -> x.wire(which, i), () -> model.wire(which, i));
    }

    private void server(int seed, int s, int what) {
        compare(seed, "server " + s + " " + what, () -> x.server(s, what), () -> model.server(s, what));
    }

    private void process(int seed, int p, int what) {
        compare(seed, "process " + p + " " + what, () -> x.process(p, what), () -> model.process(p, what));
    }

    private void glance(int seed) {
        wire(seed, random.nextInt(2), new int[] {4, 7, 9, 11, random.nextInt(24) - 2}[random.nextInt(5)]);
        server(seed, random.nextInt(2), random.nextInt(2));
        if (random.nextInt(10) == 0) {
            wire(seed, random.nextInt(5) - 1, random.nextInt(30) - 3);
            server(seed, random.nextInt(5) - 1, random.nextInt(6) - 1);
            process(seed, random.nextInt(6) - 1, random.nextInt(6) - 1);
        }
    }

    private void everything(int seed) {
        for (int which = 0; which <= 1; which++) {
            for (int i = -1; i <= 20; i++) {
                wire(seed, which, i);
            }
        }
        for (int s = 0; s <= 1; s++) {
            for (int what = 0; what <= 3; what++) {
                server(seed, s, what);
            }
        }
        for (int p = 0; p <= 3; p++) {
            for (int what = 0; what <= 3; what++) {
                process(seed, p, what);
            }
        }
    }

    private void typePath(int seed) {
        typeText(seed, random.nextInt(40) == 0 ? WRONG[random.nextInt(WRONG.length)] : path());
    }

    private void typeText(int seed, String text) {
        for (char c : text.toCharArray()) {
            compare(seed, "type " + c, () -> x.type(c), () -> model.type(c));
        }
    }

    private String path() {
        StringBuilder path = new StringBuilder();
        int names = random.nextInt(4);
        for (int i = 0; i < names; i++) {
            path.append('/').append(random.nextInt(12) == 0 ? ".." : "" + (char) ('a' + random.nextInt(letters)));
        }
        return names == 0 ? "/" : path.toString();
    }

    private int file(int p) {
        int file = random.nextInt(5);
        for (int i = 0; i < 5; i++) {
            if (p >= 0 && p < 4 && model.procs[p] != null && model.procs[p].files[file] == null) {
                file = (file + 1) % 5;
            }
        }
        return random.nextInt(30) == 0 ? wild(random.nextInt(8) - 1) : file;
    }

    private int wild(int tame) {
        return random.nextInt(3) > 0 ? tame : random.nextBoolean() ? Integer.MIN_VALUE : Integer.MAX_VALUE - random.nextInt(3);
    }

    private int process() {
        if (random.nextInt(25) == 0) {
            return wild(random.nextInt(6) - 1);
        }
        int p = random.nextInt(4);
        return model.procs[p] == null ? 0 : p;
    }

    private int how() {
        return random.nextInt(30) == 0 ? wild(random.nextInt(12) - 4) : new int[] {0, 1, 2, 4, 5, 6}[random.nextInt(6)];
    }

    private void step(int seed) {
        int p = process();
        int file = file(p);
        int mode = random.nextInt(40) == 0 ? wild(random.nextInt(6) - 2) : random.nextInt(3);
        int b = random.nextInt(20) == 0 ? wild(random.nextInt(700) - 200) : random.nextInt(256);
        int how = how();
        boolean flag = random.nextInt(3) > 0;
        switch (random.nextInt(28)) {
            case 0: case 1: case 2:
                typePath(seed);
                compare(seed, "open " + p + " " + mode, () -> x.open(p, mode), () -> model.open(p, mode));
                break;
            case 3: case 4: case 5: case 6:
                typePath(seed);
                compare(seed, "create " + p + " " + flag, () -> x.create(p, flag), () -> model.create(p, flag));
                break;
            case 7: case 8: case 9: case 10:
                compare(seed, "read " + p + " " + file, () -> x.read(p, file), () -> model.read(p, file));
                break;
            case 11: case 12: case 24: case 25:
                for (int again = random.nextInt(4); again >= 0; again--) {
                    compare(seed, "write " + p + " " + file + " " + b, () -> x.write(p, file, b), () -> model.write(p, file, b));
                }
                break;
            case 13: case 14: case 15:
                compare(seed, "close " + p + " " + file, () -> x.close(p, file), () -> model.close(p, file));
                break;
            case 16:
                typePath(seed);
                compare(seed, "remove " + p, () -> x.remove(p), () -> model.remove(p));
                break;
            case 17:
                typePath(seed);
                compare(seed, "stat " + p, () -> x.stat(p), () -> model.stat(p));
                break;
            case 18: case 19:
                typePath(seed);
                compare(seed, "keep", () -> x.keep(), () -> model.keep());
                typePath(seed);
                compare(seed, "bind " + p + " " + how, () -> x.bind(p, how), () -> model.bind(p, how));
                break;
            case 20: case 26:
                int server = random.nextInt(20) == 0 ? wild(random.nextInt(5) - 2) : random.nextInt(2);
                typePath(seed);
                compare(seed, "mount " + p + " " + server + " " + how, () -> x.mount(p, server, how), () -> model.mount(p, server, how));
                break;
            case 21:
                typePath(seed);
                compare(seed, "unmount " + p, () -> x.unmount(p), () -> model.unmount(p));
                break;
            case 22:
                compare(seed, "fork " + p + " " + flag, () -> x.fork(p, flag), () -> model.fork(p, flag));
                break;
            default:
                if (random.nextInt(3) == 0) {
                    compare(seed, "exit " + p, () -> x.exit(p), () -> model.exit(p));
                } else {
                    typePath(seed);
                }
        }
    }
}
