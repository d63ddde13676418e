import java.util.function.Supplier;

/**
 * "Calls answer REFUSED if a process, a path (or another argument) is none, then what evaluation says, and then the
 * others, in the order in which they are named; then nothing has changed."
 *
 * Whether something has changed is seen by making the same object anew without the refused call, and asking both the
 * same questions.
 */
public final class RefusalTest {
    private static final int BACK = 10;
    private static final int NONE = 1 << 30;
    private static final int ROOT = -1, HERE = 0, NO_PATH = 11;
    private static final int LEAST = Integer.MIN_VALUE, GREATEST = Integer.MAX_VALUE;
    private static final int REPLACE = 0, BEFORE = 1, AFTER = 2;
    private static final int OWN = 0, COPY = 1, EMPTY = 2;
    private static final int REFUSED = -1, NOT_FOUND = -2, NOT_DIRECTORY = -3, TOO_DEEP = -4, EXISTS = -5;
    private static final int FULL = -6, KIND = -7, NO_CREATE = -8, NOT_EMPTY = -9, NOT_BOUND = -10;
    private static final long CLOSED = -(1L << 40), FALSE = -20;

    private static final int[] PROCESSES = {LEAST, -1, 0, 1, 2, 3, 4, GREATEST};
    private static final int[] DESCRIPTORS = {LEAST, -1, 0, 1, 2, 3, 4, GREATEST};
    private static final int[] ORDERS = {LEAST, -1, 0, 1, 2, 3, GREATEST};
    private static final int[] NUMBERS = {LEAST, -1, 0, 1, 2, 3, 4, 5, 6, 7, 47, 48, GREATEST};
    private static final int[] NO_PATHS = {
        NO_PATH, -12, 121, -122, 1771561, -1771562, from(1, 0, 1), abs(1, 0, 1), from(1, 1, 1, 1, 1, 1, 1),
        NONE, GREATEST, LEAST};
    private static final int[] PATHS = {
        ROOT, HERE, BACK, abs(1), abs(2), abs(3), abs(4), abs(7), abs(8), abs(9), abs(8, 1), abs(1, 1), abs(1, 2),
        abs(2, 1), abs(2, 9), abs(3, 1), abs(1, BACK), abs(1, 1, 1, 1, 1, 1), from(1), from(2), from(1, 1), from(BACK, 1)};

    private static int wrong = 0;
    private static int checks = 0;
    private static String part = "";
    private static Supplier<BoundTrees> scene = BoundTrees::new;
    private static final String[] unchanged = new String[4];

    /** A call whose answer is below 0 exactly if it was refused. */
    private interface Call {
        long on(BoundTrees x);
    }

    private static void due(String what, long got, long want) {
        checks++;
        if (got != want) {
            wrong++;
            System.out.println(part + ": " + what + " answered " + got + ", due is " + want);
        }
    }

    private static int from(int... elements) {
        int row = 0;
        for (int e : elements) {
            row = row * 11 + e;
        }
        return row;
    }

    private static int abs(int... elements) {
        return -1 - from(elements);
    }

    private static long truth(boolean answer) {
        return answer ? 1 : FALSE;
    }

    // Scenes

    /** One process, with a file, a union and both of them open. */
    private static BoundTrees alone() {
        BoundTrees x = new BoundTrees();
        x.create(0, abs(1), true);
        x.create(0, abs(8), false);
        x.create(0, abs(1, 1), true);
        x.mount(0, 0, abs(1), AFTER, true);
        x.open(0, abs(8));
        x.write(0, 0, 10);
        x.write(0, 0, 20);
        x.seek(0, 0, 1);
        x.open(0, abs(1));
        x.read(0, 1);
        x.chdir(0, abs(1, 1));
        return x;
    }

    /** Three processes with spaces and descriptors of their own and in common, and GONE nodes that are held. */
    private static BoundTrees busy() {
        BoundTrees x = new BoundTrees();
        x.create(0, abs(1), true);
        x.create(0, abs(2), true);
        x.create(0, abs(3), true);
        x.create(0, abs(8), false);
        x.create(0, abs(9), false);
        x.create(0, abs(1, 1), true);
        x.create(0, abs(1, 2), false);
        x.create(0, abs(2, 1), true);
        x.create(0, abs(2, 1, 1), true);
        x.create(0, abs(1, 3), false);
        x.open(0, abs(8));
        for (int v = 10; v <= 30; v += 10) {
            x.write(0, 0, v);
        }
        x.seek(0, 0, 1);
        x.bind(0, abs(1), abs(2), AFTER, true);
        x.mount(0, 1, abs(3), BEFORE, false);
        x.bind(0, abs(8), abs(9), REPLACE, true);
        x.open(0, abs(2));
        x.read(0, 1);
        x.fork(0, COPY, false);
        x.fork(0, OWN, true);
        x.chdir(1, abs(2, 1));
        x.chdir(2, abs(1, 1));
        x.open(1, abs(1, 2));
        x.remove(0, abs(1, 2));
        x.remove(2, HERE);
        return x;
    }

    /** All that has a limit is at it: processes, descriptors, nodes, covers, members, ints and a trail. */
    private static BoundTrees full() {
        BoundTrees x = new BoundTrees();
        for (int i = 1; i <= 9; i++) {
            x.create(0, abs(i), i < 8);
        }
        int[] rows = {1, from(1, 1), from(1, 1, 1), from(1, 1, 1, 1), from(1, 1, 1, 1, 1), from(1, 1, 1, 1, 1, 1)};
        for (int i = 1; i < 6; i++) {
            x.create(0, -1 - rows[i], true);
        }
        x.chdir(0, -1 - rows[5]);
        x.create(0, from(1), true);
        for (int i = 0; i < 30; i++) {
            x.create(0, -1 - (rows[i / 8] * 11 + 2 + i % 8), false);
        }
        for (int i = 0; i < 5; i++) {
            x.mount(0, 1, abs(2), i == 0 ? REPLACE : AFTER, false);
        }
        x.bind(0, abs(7), abs(3), REPLACE, true);
        x.bind(0, abs(1), abs(4), REPLACE, true);
        x.mount(0, 2, abs(5), REPLACE, true);
        x.mount(0, 2, abs(6), AFTER, true);
        x.bind(0, abs(8), abs(9), REPLACE, true);
        x.remove(0, abs(7));
        x.open(0, abs(8));
        for (int i = 1; i <= 6; i++) {
            x.write(0, 0, 10 * i);
        }
        x.open(0, abs(2));
        x.open(0, abs(1));
        x.read(0, 2);
        x.open(0, abs(9));
        x.fork(0, COPY, false);
        x.fork(0, OWN, true);
        x.fork(0, EMPTY, false);
        return x;
    }

    /** The scenes say nothing of limits and GONE nodes unless they have them. */
    private static void allIsFull(BoundTrees x) {
        due("the last node", x.state(47), 1);
        due("one that is GONE", x.state(9), 2);
        due("a trail of 7", x.dot(0), abs(1, 1, 1, 1, 1, 1));
        due("five members", x.seen(0, abs(2), 4), 1);
        due("six ints", x.about(10, 1), 6);
        due("four processes", x.dot(3), abs(1, 1, 1, 1, 1, 1));
        due("four descriptors", x.read(0, 3), 10);
    }

    private static void threeAreBusy(BoundTrees x) {
        due("a GONE one in a DOT", x.state(8), 2);
        due("a GONE one in a descriptor", x.state(9), 2);
        due("a union", x.seen(1, abs(2), 1), 3);
        due("a DOT", x.dot(1), abs(2, 1));
        due("a file half read", x.read(2, 0), 20);
        due("a union half read", x.read(1, 1), 12);
    }

    // Questions

    private static String nodes(BoundTrees x) {
        StringBuilder all = new StringBuilder();
        for (int node = 0; node < 48; node++) {
            all.append(" node ").append(node).append(": ").append(x.state(node));
            for (int what = 0; what <= 4; what++) {
                all.append(' ').append(x.about(node, what));
            }
        }
        return all.toString();
    }

    private static String names(BoundTrees x) {
        int[] paths = {
            ROOT, HERE, BACK, abs(1), abs(2), abs(3), abs(4), abs(5), abs(6), abs(9), from(1), abs(2, 1)};
        StringBuilder all = new StringBuilder();
        for (int p = 0; p < 4; p++) {
            all.append(" dot of ").append(p).append(": ").append(x.dot(p));
            for (int path : paths) {
                all.append(" at ").append(path).append(": ").append(x.place(p, path));
                for (int k = 0; k <= 5; k++) {
                    all.append(' ').append(x.seen(p, path, k));
                }
            }
        }
        return all.toString();
    }

    private static String descriptors(BoundTrees x) {
        StringBuilder all = new StringBuilder();
        for (int p = 0; p < 4; p++) {
            for (int d = 0; d < 4; d++) {
                all.append(" descriptor ").append(p).append(' ').append(d).append(':');
                all.append(' ').append(x.read(p, d)).append(' ').append(x.read(p, d)).append(' ').append(x.read(p, d));
            }
        }
        for (int p = 0; p < 4; p++) {
            for (int d = 0; d < 4; d++) {
                all.append(" again ").append(p).append(' ').append(d).append(':');
                all.append(' ').append(x.seek(p, d, 0)).append(' ').append(x.read(p, d));
                all.append(' ').append(x.write(p, d, 5)).append(' ').append(x.close(p, d));
            }
        }
        return all + nodes(x);
    }

    private static String whatComesNext(BoundTrees x) {
        StringBuilder all = new StringBuilder();
        for (int p = 0; p < 4; p++) {
            all.append(" next of ").append(p).append(':');
            for (int i = 1; i <= 7; i++) {
                int made = x.create(p, abs(i, 7), i % 2 == 0);
                all.append(' ').append(made).append(' ').append(x.about(made, 4));
            }
            all.append(' ').append(x.open(p, ROOT)).append(' ').append(x.fork(p, COPY, true));
            for (int i = 1; i <= 7; i++) {
                all.append(' ').append(x.unmount(p, NONE, abs(i)));
            }
            all.append(' ').append(x.chdir(p, ROOT)).append(' ').append(x.open(p, abs(1)));
        }
        for (int p = 0; p < 4; p++) {
            all.append(" exit ").append(x.exit(p));
        }
        for (int node = 0; node < 48; node++) {
            all.append(' ').append(x.state(node));
        }
        return all.toString();
    }

    private static String ask(int question, BoundTrees x) {
        switch (question) {
            case 0: return nodes(x);
            case 1: return names(x);
            case 2: return descriptors(x);
            default: return whatComesNext(x);
        }
    }

    private static void begin(String name, Supplier<BoundTrees> of) {
        part = name;
        scene = of;
        for (int question = 0; question < unchanged.length; question++) {
            unchanged[question] = ask(question, scene.get());
        }
    }

    private static void changesNothing(String what, Call call) {
        for (int question = 0; question < unchanged.length; question++) {
            BoundTrees x = scene.get();
            call.on(x);
            String now = ask(question, x);
            checks++;
            if (!now.equals(unchanged[question])) {
                wrong++;
                System.out.println(part + ": after " + what + "\n  it is" + now + "\n  it was" + unchanged[question]);
            }
        }
    }

    private static void refused(String what, Call call, long want) {
        due(what, call.on(scene.get()), want);
        changesNothing(what, call);
    }

    // The order of each call's refusals, where everything is full

    private static void oneArgumentIsNone() {
        refused("place: process", x -> x.place(4, ROOT), REFUSED);
        refused("place: path", x -> x.place(0, NO_PATH), REFUSED);
        refused("seen: process", x -> x.seen(4, ROOT, 0), REFUSED);
        refused("seen: path", x -> x.seen(0, NO_PATH, 0), REFUSED);
        refused("fork: process", x -> x.fork(4, OWN, true), REFUSED);
        refused("fork: space", x -> x.fork(0, 3, true), REFUSED);
        refused("exit: process", x -> x.exit(4), REFUSED);
        refused("chdir: process", x -> x.chdir(4, ROOT), REFUSED);
        refused("chdir: path", x -> x.chdir(0, NO_PATH), REFUSED);
        refused("dot: process", x -> x.dot(4), REFUSED);
        refused("bind: process", x -> x.bind(4, abs(1), abs(2), REPLACE, true), REFUSED);
        refused("bind: fresh", x -> x.bind(0, NO_PATH, abs(2), REPLACE, true), REFUSED);
        refused("bind: old", x -> x.bind(0, abs(1), NO_PATH, REPLACE, true), REFUSED);
        refused("bind: order", x -> x.bind(0, abs(1), abs(2), 3, true), REFUSED);
        refused("mount: process", x -> x.mount(4, 1, abs(2), REPLACE, true), REFUSED);
        refused("mount: tree", x -> x.mount(0, 3, abs(2), REPLACE, true), REFUSED);
        refused("mount: old", x -> x.mount(0, 1, NO_PATH, REPLACE, true), REFUSED);
        refused("mount: order", x -> x.mount(0, 1, abs(2), 3, true), REFUSED);
        refused("unmount: process", x -> x.unmount(4, NONE, abs(2)), REFUSED);
        refused("unmount: fresh", x -> x.unmount(0, NO_PATH, abs(2)), REFUSED);
        refused("unmount: old", x -> x.unmount(0, NONE, NO_PATH), REFUSED);
        refused("create: process", x -> x.create(4, abs(7), true), REFUSED);
        refused("create: path", x -> x.create(0, NO_PATH, true), REFUSED);
        refused("create: no last element", x -> x.create(0, ROOT, true), REFUSED);
        refused("create: back is the last", x -> x.create(0, abs(1, BACK), true), REFUSED);
        refused("remove: process", x -> x.remove(4, abs(8)), REFUSED);
        refused("remove: path", x -> x.remove(0, NO_PATH), REFUSED);
        refused("open: process", x -> x.open(4, abs(8)), REFUSED);
        refused("open: path", x -> x.open(0, NO_PATH), REFUSED);
        refused("read: process", x -> x.read(4, 0), CLOSED);
        refused("read: descriptor", x -> x.read(0, 4), CLOSED);
        refused("write: process", x -> x.write(4, 3, 1), REFUSED);
        refused("write: descriptor", x -> x.write(0, 4, 1), REFUSED);
        refused("seek: process", x -> truth(x.seek(4, 0, 0)), FALSE);
        refused("seek: descriptor", x -> truth(x.seek(0, 4, 0)), FALSE);
        refused("close: process", x -> truth(x.close(4, 0)), FALSE);
        refused("close: descriptor", x -> truth(x.close(0, 4)), FALSE);
        refused("state: node", x -> x.state(48), REFUSED);
        refused("about: node", x -> x.about(48, 0), REFUSED);
        refused("about: what", x -> x.about(3, 5), REFUSED);
    }

    private static void noneBeforeEvaluation() {
        refused("place: process before evaluation", x -> x.place(4, abs(7)), REFUSED);
        refused("place: a 0 behind what is not found", x -> x.place(0, abs(7, 0)), REFUSED);
        refused("seen: process before evaluation", x -> x.seen(4, abs(7), 0), REFUSED);
        refused("fork: process before FULL", x -> x.fork(-1, OWN, true), REFUSED);
        refused("fork: space before FULL", x -> x.fork(0, -1, true), REFUSED);
        refused("chdir: process before evaluation", x -> x.chdir(4, abs(7)), REFUSED);
        refused("bind: process before evaluation", x -> x.bind(4, abs(7), abs(7), REPLACE, true), REFUSED);
        refused("bind: fresh before old is evaluated", x -> x.bind(0, NO_PATH, abs(7), REPLACE, true), REFUSED);
        refused("bind: old before fresh is evaluated", x -> x.bind(0, abs(7), NO_PATH, REPLACE, true), REFUSED);
        refused("bind: order before evaluation", x -> x.bind(0, abs(7), abs(8, 1), 3, true), REFUSED);
        refused("bind: order before KIND", x -> x.bind(0, abs(8), abs(1), -1, true), REFUSED);
        refused("bind: order before FULL", x -> x.bind(0, abs(1), abs(1), 3, true), REFUSED);
        refused("mount: process before evaluation", x -> x.mount(4, 1, abs(7), REPLACE, true), REFUSED);
        refused("mount: tree before evaluation", x -> x.mount(0, -1, abs(7), REPLACE, true), REFUSED);
        refused("mount: order before evaluation", x -> x.mount(0, 1, abs(7), 3, true), REFUSED);
        refused("mount: tree before KIND", x -> x.mount(0, 3, abs(8), REPLACE, true), REFUSED);
        refused("mount: order before FULL", x -> x.mount(0, 1, abs(1), -1, true), REFUSED);
        refused("unmount: process before evaluation", x -> x.unmount(4, abs(7), abs(7)), REFUSED);
        refused("unmount: old before fresh is evaluated", x -> x.unmount(0, abs(7), NO_PATH), REFUSED);
        refused("unmount: fresh before old is evaluated", x -> x.unmount(0, NO_PATH, abs(7)), REFUSED);
        refused("unmount: old is NONE", x -> x.unmount(0, NONE, NONE), REFUSED);
        refused("unmount: fresh before NOT_BOUND", x -> x.unmount(0, NO_PATH, abs(1)), REFUSED);
        refused("create: process before evaluation", x -> x.create(4, abs(7, 1), true), REFUSED);
        refused("create: no name before evaluation", x -> x.create(0, abs(7, BACK), true), REFUSED);
        refused("create: no name before NOT_DIRECTORY", x -> x.create(0, abs(8, BACK), true), REFUSED);
        refused("remove: process before evaluation", x -> x.remove(4, abs(7)), REFUSED);
        refused("remove: process before KIND", x -> x.remove(4, ROOT), REFUSED);
        refused("open: process before evaluation", x -> x.open(4, abs(7)), REFUSED);
        refused("open: path before FULL", x -> x.open(0, abs(7, 0)), REFUSED);
    }

    private static void evaluationBeforeTheOthers() {
        refused("place", x -> x.place(0, abs(7)), NOT_FOUND);
        refused("place", x -> x.place(0, abs(8, 1)), NOT_DIRECTORY);
        refused("place", x -> x.place(0, from(1)), TOO_DEEP);
        refused("seen, before NONE", x -> x.seen(0, abs(7), 9), NOT_FOUND);
        refused("seen, before NONE", x -> x.seen(0, from(1), 9), TOO_DEEP);
        refused("chdir", x -> x.chdir(0, abs(7)), NOT_FOUND);
        refused("chdir", x -> x.chdir(0, from(1)), TOO_DEEP);
        refused("chdir", x -> x.chdir(0, abs(8, 1)), NOT_DIRECTORY);
        refused("bind: fresh before old", x -> x.bind(0, abs(7), abs(8, 1), REPLACE, true), NOT_FOUND);
        refused("bind: fresh before old", x -> x.bind(0, abs(8, 1), from(1), REPLACE, true), NOT_DIRECTORY);
        refused("bind: fresh before old", x -> x.bind(0, from(1), abs(7), REPLACE, true), TOO_DEEP);
        refused("bind: old before KIND", x -> x.bind(0, abs(8), abs(7), AFTER, true), NOT_FOUND);
        refused("bind: old before KIND", x -> x.bind(0, abs(8), from(1), REPLACE, true), TOO_DEEP);
        refused("bind: fresh before FULL", x -> x.bind(0, abs(7), abs(1), REPLACE, true), NOT_FOUND);
        refused("mount", x -> x.mount(0, 1, abs(7), REPLACE, true), NOT_FOUND);
        refused("mount", x -> x.mount(0, 1, abs(8, 1), REPLACE, true), NOT_DIRECTORY);
        refused("mount", x -> x.mount(0, 1, from(1), REPLACE, true), TOO_DEEP);
        refused("unmount: fresh before old", x -> x.unmount(0, abs(7), abs(8, 1)), NOT_FOUND);
        refused("unmount: fresh before old", x -> x.unmount(0, abs(8, 1), abs(7)), NOT_DIRECTORY);
        refused("unmount: fresh before NOT_BOUND", x -> x.unmount(0, from(1), abs(1)), TOO_DEEP);
        refused("unmount: old before NOT_BOUND", x -> x.unmount(0, abs(1), abs(7)), NOT_FOUND);
        refused("unmount: old of all", x -> x.unmount(0, NONE, abs(8, 1)), NOT_DIRECTORY);
        refused("create: the others", x -> x.create(0, abs(7, 1), true), NOT_FOUND);
        refused("create: the others", x -> x.create(0, from(1, 1), true), TOO_DEEP);
        refused("create: the others", x -> x.create(0, abs(8, 1, 1), true), NOT_DIRECTORY);
        refused("remove", x -> x.remove(0, abs(7)), NOT_FOUND);
        refused("remove", x -> x.remove(0, from(1)), TOO_DEEP);
        refused("remove", x -> x.remove(0, abs(8, 1)), NOT_DIRECTORY);
        refused("open, before FULL", x -> x.open(0, abs(7)), NOT_FOUND);
        refused("open, before FULL", x -> x.open(0, from(1)), TOO_DEEP);
        refused("open, before FULL", x -> x.open(0, abs(8, 1)), NOT_DIRECTORY);
    }

    private static void theOthersInTheirOrder() {
        refused("seen", x -> x.seen(0, abs(2), 5), NONE);
        refused("fork", x -> x.fork(0, OWN, true), FULL);
        refused("chdir", x -> x.chdir(0, abs(8)), NOT_DIRECTORY);
        for (int order = 0; order <= 2; order++) {
            int o = order;
            refused("bind: KIND before a seventh covered", x -> x.bind(0, abs(8), abs(1), o, true), KIND);
            refused("bind: KIND before six members", x -> x.bind(0, abs(8), abs(2), o, true), KIND);
            refused("bind: KIND, the other way", x -> x.bind(0, abs(1), abs(8), o, true), KIND);
            refused("bind: files", x -> x.bind(0, abs(8), abs(1, 2), o, true), o == 0 ? FULL : KIND);
            refused("bind: a seventh covered", x -> x.bind(0, abs(2), abs(1), o, true), FULL);
            refused("mount: KIND before FULL", x -> x.mount(0, 1, abs(1, 2), o, true), KIND);
            refused("mount: a seventh covered", x -> x.mount(0, 1, abs(1), o, true), FULL);
        }
        for (int order = 1; order <= 2; order++) {
            int o = order;
            refused("bind: six members", x -> x.bind(0, abs(1), abs(2), o, true), FULL);
            refused("bind: ten members", x -> x.bind(0, abs(2), abs(2), o, true), FULL);
            refused("bind: six members, five to come", x -> x.bind(0, abs(2), abs(4), o, true), FULL);
            refused("mount: six members", x -> x.mount(0, 2, abs(2), o, true), FULL);
        }
        refused("unmount: not covered", x -> x.unmount(0, abs(1), abs(1)), NOT_BOUND);
        refused("unmount: not covered, all", x -> x.unmount(0, NONE, abs(1)), NOT_BOUND);
        refused("unmount: no such member", x -> x.unmount(0, abs(1), abs(2)), NOT_BOUND);
        refused("create: NOT_DIRECTORY before FULL", x -> x.create(0, abs(8, 1), true), NOT_DIRECTORY);
        refused("create: EXISTS before FULL", x -> x.create(0, abs(1), true), EXISTS);
        refused("create: EXISTS before FULL, in a trail of 7", x -> x.create(0, from(1), true), EXISTS);
        refused("create: EXISTS in what is SEEN", x -> x.create(0, abs(4, 2), true), EXISTS);
        refused("create: NO_CREATE before FULL", x -> x.create(0, abs(2, 1), true), NO_CREATE);
        refused("create: NOT_FOUND before FULL", x -> x.create(0, abs(3, 1), true), NOT_FOUND);
        refused("create", x -> x.create(0, abs(7), true), FULL);
        refused("create, in a trail of 7", x -> x.create(0, from(2), true), FULL);
        refused("create, with CREATE", x -> x.create(0, abs(5, 1), false), FULL);
        refused("remove: KIND before NOT_EMPTY", x -> x.remove(0, ROOT), KIND);
        refused("remove", x -> x.remove(0, abs(1)), NOT_EMPTY);
        refused("remove DOT", x -> x.remove(0, HERE), NOT_EMPTY);
        refused("open", x -> x.open(0, abs(8)), FULL);
        refused("write at 6", x -> x.write(0, 0, 1), FULL);
        refused("write, directories", x -> x.write(0, 1, 1), REFUSED);
        refused("seek behind the last", x -> truth(x.seek(0, 0, 7)), FALSE);
        refused("seek below 0", x -> truth(x.seek(0, 0, -1)), FALSE);
        refused("seek, directories", x -> truth(x.seek(0, 2, 1)), FALSE);
    }

    // All calls with all arguments

    private static void unchangedIfRefused(String what, Call call) {
        if (call.on(scene.get()) < 0) {
            changesNothing(what, call);
        }
    }

    private static void pathCalls(int p, int path) {
        String at = "(" + p + ", " + path + ")";
        changesNothing("place" + at, x -> x.place(p, path));
        changesNothing("seen" + at, x -> x.seen(p, path, 0));
        unchangedIfRefused("chdir" + at, x -> x.chdir(p, path));
        unchangedIfRefused("create" + at, x -> x.create(p, path, true));
        unchangedIfRefused("remove" + at, x -> x.remove(p, path));
        unchangedIfRefused("open" + at, x -> x.open(p, path));
        unchangedIfRefused("unmount of all" + at, x -> x.unmount(p, NONE, path));
        for (int order : ORDERS) {
            unchangedIfRefused("mount" + at + order, x -> x.mount(p, 2, path, order, true));
        }
    }

    private static void descriptorCalls(int p, int d) {
        String at = "(" + p + ", " + d + ")";
        unchangedIfRefused("read" + at, x -> x.read(p, d));
        unchangedIfRefused("write" + at, x -> x.write(p, d, 9));
        unchangedIfRefused("close" + at, x -> truth(x.close(p, d)));
        for (int k : NUMBERS) {
            unchangedIfRefused("seek" + at + k, x -> truth(x.seek(p, d, k)));
        }
    }

    private static void twoPathCalls(int p, int fresh, int old) {
        String at = "(" + p + ", " + fresh + ", " + old + ")";
        unchangedIfRefused("unmount" + at, x -> x.unmount(p, fresh, old));
        for (int order = -1; order <= 3; order++) {
            int o = order;
            unchangedIfRefused("bind" + at + o, x -> x.bind(p, fresh, old, o, true));
        }
    }

    private static void allCalls() {
        for (int p : PROCESSES) {
            changesNothing("dot(" + p + ")", x -> x.dot(p));
            unchangedIfRefused("exit(" + p + ")", x -> x.exit(p));
            for (int path : PATHS) {
                pathCalls(p, path);
            }
            for (int path : NO_PATHS) {
                pathCalls(p, path);
            }
            for (int d : DESCRIPTORS) {
                descriptorCalls(p, d);
            }
            for (int space : ORDERS) {
                unchangedIfRefused("fork(" + p + ", " + space + ")", x -> x.fork(p, space, true));
                unchangedIfRefused("fork(" + p + ", " + space + ")", x -> x.fork(p, space, false));
            }
        }
        for (int node : NUMBERS) {
            changesNothing("state(" + node + ")", x -> x.state(node));
            for (int what = -1; what <= 5; what++) {
                int w = what;
                changesNothing("about(" + node + ", " + w + ")", x -> x.about(node, w));
            }
        }
        for (int tree : NUMBERS) {
            unchangedIfRefused("mount(" + tree + ")", x -> x.mount(0, tree, abs(2), BEFORE, false));
        }
        for (int fresh : PATHS) {
            for (int old : PATHS) {
                twoPathCalls(0, fresh, old);
            }
            twoPathCalls(1, fresh, NO_PATH);
            twoPathCalls(1, NO_PATH, fresh);
        }
    }

    public static void main(String[] args) {
        begin("all is full", RefusalTest::full);
        allIsFull(scene.get());
        oneArgumentIsNone();
        noneBeforeEvaluation();
        evaluationBeforeTheOthers();
        theOthersInTheirOrder();
        allCalls();
        begin("three processes", RefusalTest::busy);
        threeAreBusy(scene.get());
        allCalls();
        begin("one process", RefusalTest::alone);
        refused("exit of the only one", x -> x.exit(0), REFUSED);
        allCalls();
        System.out.println(checks + " checks, " + wrong + " wrong");
        if (wrong != 0) {
            System.exit(1);
        }
    }
}
