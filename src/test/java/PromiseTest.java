/** For each promise of the document: ordinary inputs, the edges it names, and wrong inputs. */
public final class PromiseTest {
    private static final int BACK = 10;
    private static final int NONE = BoundTrees.NONE;
    private static final int ROOT = -1, HERE = 0;
    private static final int REFUSED = -1, NOT_FOUND = -2, NOT_DIRECTORY = -3, TOO_DEEP = -4, EXISTS = -5;
    private static final int FULL = -6, KIND = -7, NO_CREATE = -8, NOT_EMPTY = -9, NOT_BOUND = -10;
    private static final long END = 1L << 40, CLOSED = -(1L << 40);
    private static final int[] NO_PATHS = {
        11, -12, 22, 121, -122, 1 + 11 * 11, -1 - 1 - 11 * 11, 1771561, 1948717, -1948718,
        NONE, Integer.MAX_VALUE, Integer.MIN_VALUE};
    private static final int[] NO_PROCESSES = {-1, 1, 2, 3, 4, 48, Integer.MAX_VALUE, Integer.MIN_VALUE};

    private static int wrong = 0;
    private static int checks = 0;
    private static String part = "";

    private static void due(String what, long got, long want) {
        checks++;
        if (got != want) {
            wrong++;
            System.out.println(part + ": " + what + " answered " + got + ", due is " + want);
        }
    }

    private static void due(String what, boolean got, boolean want) {
        due(what, got ? 1L : 0L, want ? 1L : 0L);
    }

    private static int from(int... elements) {
        int row = 0;
        for (int e : elements) {
            row = row * 11 + e;
        }
        return row;
    }

    private static int abs(int... elements) {
        return -1 - from(elements);
    }

    /** Directories 3 at 1, 4 at 2; files 5 at 1/3, 6 at 2/3; directory 7 at 2/4. */
    private static BoundTrees small() {
        BoundTrees x = new BoundTrees();
        due("small", x.create(0, abs(1), true), 3);
        due("small", x.create(0, abs(2), true), 4);
        due("small", x.create(0, abs(1, 3), false), 5);
        due("small", x.create(0, abs(2, 3), false), 6);
        due("small", x.create(0, abs(2, 4), true), 7);
        return x;
    }

    private static void seenIs(BoundTrees x, int p, int path, int... nodes) {
        for (int k = 0; k < nodes.length; k++) {
            due("seen " + k, x.seen(p, path, k), nodes[k]);
        }
        due("seen behind the last", x.seen(p, path, nodes.length), NONE);
    }

    private static void readIs(BoundTrees x, int p, int d, long... answers) {
        for (int k = 0; k < answers.length; k++) {
            due("read " + k, x.read(p, d), answers[k]);
        }
    }

    private static void constants() {
        part = "the constants";
        due("REFUSED", BoundTrees.REFUSED, -1);
        due("NOT_FOUND", BoundTrees.NOT_FOUND, -2);
        due("NOT_DIRECTORY", BoundTrees.NOT_DIRECTORY, -3);
        due("TOO_DEEP", BoundTrees.TOO_DEEP, -4);
        due("EXISTS", BoundTrees.EXISTS, -5);
        due("FULL", BoundTrees.FULL, -6);
        due("KIND", BoundTrees.KIND, -7);
        due("NO_CREATE", BoundTrees.NO_CREATE, -8);
        due("NOT_EMPTY", BoundTrees.NOT_EMPTY, -9);
        due("NOT_BOUND", BoundTrees.NOT_BOUND, -10);
        due("NONE", BoundTrees.NONE, 1073741824L);
        due("END", BoundTrees.END, 1099511627776L);
        due("CLOSED", BoundTrees.CLOSED, -1099511627776L);
    }

    private static void promise1() {
        part = "promise 1";
        BoundTrees x = new BoundTrees();
        for (int node = 0; node < 48; node++) {
            due("state " + node, x.state(node), node < 3 ? 1 : 0);
        }
        for (int node = 0; node < 3; node++) {
            due("version", x.about(node, 0), 0);
            due("children", x.about(node, 2), 0);
        }
        due("dot", x.dot(0), ROOT);
        due("place", x.place(0, HERE), 0);
        for (int d = 0; d < 4; d++) {
            due("nothing open", x.read(0, d), CLOSED);
        }
        seenIs(x, 0, ROOT, 0);
        due("nothing covered", x.unmount(0, NONE, ROOT), NOT_BOUND);
        for (int p : NO_PROCESSES) {
            due("no process " + p, x.place(p, ROOT), REFUSED);
        }
    }

    private static void promise2() {
        part = "promise 2";
        BoundTrees x = small();
        due("from the root", x.place(0, abs(2, 3)), 6);
        due("from dot", x.place(0, from(2, 4)), 7);
        due("back", x.place(0, abs(2, 4, BACK, 3)), 6);
        due("back from a file", x.place(0, abs(1, 3, BACK)), 3);
        due("back at the root", x.place(0, abs(BACK)), 0);
        due("back at the root", x.place(0, abs(BACK, 1)), 3);
        due("back at the root", x.place(0, abs(BACK, BACK, 1)), 3);
        due("not there", x.place(0, abs(9)), NOT_FOUND);
        due("below a file", x.place(0, abs(1, 3, 1)), NOT_DIRECTORY);
        due("first refusal counts", x.place(0, abs(9, 1, 1)), NOT_FOUND);
        due("not found before back", x.place(0, abs(9, BACK)), NOT_FOUND);
        for (int path : NO_PATHS) {
            due("no path " + path, x.place(0, path), REFUSED);
        }
        due("chdir", x.chdir(0, abs(2)), 4);
        due("from dot", x.place(0, from(3)), 6);
        due("dot itself", x.place(0, HERE), 4);
        due("dot back", x.place(0, BACK), 0);
        due("the root is not dot", x.place(0, abs(3)), NOT_FOUND);
    }

    private static void promise2Depth() {
        part = "promise 2, depth";
        BoundTrees x = new BoundTrees();
        for (int i = 0; i < 6; i++) {
            due("down", x.create(0, from(1), true), 3 + i);
            due("down", x.chdir(0, from(1)), 3 + i);
        }
        due("dot", x.dot(0), abs(1, 1, 1, 1, 1, 1));
        due("six elements", x.place(0, abs(1, 1, 1, 1, 1, 1)), 8);
        due("six backs", x.place(0, from(BACK, BACK, BACK, BACK, BACK, BACK)), 0);
        due("not found before too deep", x.place(0, from(1)), NOT_FOUND);
        due("a trail of 7 does not hinder create", x.create(0, from(1), true), 9);
        due("it exists then", x.create(0, from(1), true), EXISTS);
        due("too deep", x.place(0, from(1)), TOO_DEEP);
        due("too deep before back", x.place(0, from(1, BACK)), TOO_DEEP);
        due("too deep is not found later", x.chdir(0, from(1)), TOO_DEEP);
        due("back and again", x.place(0, from(BACK, 1)), 8);
        due("children are counted", x.about(8, 2), 1);
    }

    private static void promise2GoneOnTheTrail() {
        part = "promise 2, GONE nodes of a trail";
        BoundTrees x = small();
        due("chdir", x.chdir(0, abs(2, 4)), 7);
        due("bind", x.bind(0, abs(1), HERE, 0, true), 1);
        due("remove dot", x.remove(0, HERE), 7);
        due("held", x.state(7), 2);
        due("gone at last", x.place(0, HERE), NOT_FOUND);
        due("a name below it is still looked for", x.place(0, from(3)), 5);
        due("back over it", x.place(0, from(BACK, 3)), 6);
        due("the others of create are evaluated", x.create(0, from(9), true), NOT_FOUND);
        due("chdir to it", x.chdir(0, HERE), NOT_FOUND);
        due("seen", x.seen(0, HERE, 0), NOT_FOUND);
        due("open", x.open(0, HERE), NOT_FOUND);
        due("bind over it", x.bind(0, abs(1), HERE, 0, true), NOT_FOUND);
        due("bind it", x.bind(0, HERE, abs(1), 0, true), NOT_FOUND);
        due("mount over it", x.mount(0, 1, HERE, 0, true), NOT_FOUND);
        due("unmount", x.unmount(0, NONE, HERE), NOT_FOUND);
        due("remove again", x.remove(0, HERE), NOT_FOUND);
        due("dot still tells it", x.dot(0), abs(2, 4));
        due("leave", x.chdir(0, ROOT), 0);
        due("covered, so held", x.state(7), 2);
        due("another space", x.fork(0, 2, false), 1);
        due("exit", x.exit(0), 1);
        due("its space is gone", x.state(7), 0);
    }

    private static void promise3() {
        part = "promise 3";
        BoundTrees x = small();
        seenIs(x, 0, abs(1), 3);
        due("bind", x.bind(0, abs(2), abs(1), 1, false), 2);
        seenIs(x, 0, abs(1), 4, 3);
        seenIs(x, 0, abs(2), 4);
        due("k below 0", x.seen(0, abs(1), -1), NONE);
        due("k far below", x.seen(0, abs(1), Integer.MIN_VALUE), NONE);
        due("k far above", x.seen(0, abs(1), Integer.MAX_VALUE), NONE);
        seenIs(x, 0, abs(1, 3), 6);
        due("evaluation first", x.seen(0, abs(9), 7), NOT_FOUND);
        due("below a file", x.seen(0, abs(1, 3, 3), 0), NOT_DIRECTORY);
        for (int path : NO_PATHS) {
            due("no path " + path, x.seen(0, path, 0), REFUSED);
        }
        for (int p : NO_PROCESSES) {
            due("no process " + p, x.seen(p, ROOT, 0), REFUSED);
        }
    }

    private static void promise4Spaces() {
        part = "promise 4, spaces";
        BoundTrees x = small();
        due("bind", x.bind(0, abs(2), abs(1), 0, true), 1);
        due("chdir", x.chdir(0, abs(2)), 4);
        due("wrong space", x.fork(0, 3, true), REFUSED);
        due("wrong space", x.fork(0, -1, false), REFUSED);
        for (int p : NO_PROCESSES) {
            due("no process " + p, x.fork(p, 0, true), REFUSED);
        }
        due("own", x.fork(0, 0, false), 1);
        due("copy", x.fork(0, 1, false), 2);
        due("empty", x.fork(0, 2, false), 3);
        due("REFUSED before FULL", x.fork(0, 3, false), REFUSED);
        due("four", x.fork(0, 0, false), FULL);
        for (int p = 0; p < 4; p++) {
            due("dot of " + p, x.dot(p), abs(2));
            seenIs(x, p, abs(1), p == 3 ? 3 : 4);
        }
        due("dots are apart", x.chdir(1, ROOT), 0);
        due("dots are apart", x.dot(0), abs(2));
        due("in one space", x.mount(1, 1, abs(1), 2, false), 2);
        seenIs(x, 0, abs(1), 4, 1);
        seenIs(x, 2, abs(1), 4);
        seenIs(x, 3, abs(1), 3);
        due("in the copy", x.mount(2, 2, abs(1), 1, false), 2);
        seenIs(x, 2, abs(1), 2, 4);
        seenIs(x, 0, abs(1), 4, 1);
        due("CREATE is copied", x.create(2, abs(1, 9), true), 8);
        due("in the one with CREATE", x.about(8, 4), 4);
        due("exit", x.exit(0), 3);
        due("the space stays for the other", x.seen(1, abs(1), 1), 1);
        due("the least number", x.fork(3, 1, true), 0);
        seenIs(x, 0, abs(1), 3);
        due("of process 3", x.dot(0), abs(2));
    }

    private static void promise4Anew() {
        part = "promise 4, what a process left behind";
        BoundTrees x = small();
        due("fork", x.fork(0, 2, false), 1);
        for (int i = 0; i < 4; i++) {
            due("open", x.open(1, abs(1)), i);
        }
        due("no descriptor behind the last", x.read(0, 4), CLOSED);
        due("no descriptor behind the last", x.close(0, 4), false);
        due("cover", x.mount(1, 1, ROOT, 2, true), 2);
        due("cover", x.mount(1, 1, abs(1), 2, true), 2);
        due("cover", x.mount(1, 1, abs(2), 2, true), 2);
        due("cover", x.mount(1, 1, abs(2, 4), 2, true), 2);
        due("chdir", x.chdir(1, abs(2, 4)), 7);
        due("exit", x.exit(1), 1);
        due("fork", x.fork(0, 2, false), 1);
        seenIs(x, 1, ROOT, 0);
        seenIs(x, 1, abs(1), 3);
        seenIs(x, 1, abs(2), 4);
        seenIs(x, 1, abs(2, 4), 7);
        due("dot", x.dot(1), ROOT);
        for (int d = 0; d < 4; d++) {
            due("closed", x.read(1, d), CLOSED);
        }
    }

    private static void promise4Descriptors() {
        part = "promise 4, descriptors";
        BoundTrees x = small();
        due("open", x.open(0, abs(1, 3)), 0);
        due("write", x.write(0, 0, 5), 1);
        due("write", x.write(0, 0, 6), 2);
        due("seek", x.seek(0, 0, 0), true);
        due("shared", x.fork(0, 2, true), 1);
        due("a copy", x.fork(0, 0, false), 2);
        due("a copy of the shared", x.fork(1, 0, false), 3);
        readIs(x, 0, 0, 5);
        readIs(x, 1, 0, 6);
        readIs(x, 2, 0, 5, 6, END);
        readIs(x, 3, 0, 5);
        due("open in one", x.open(1, abs(2, 3)), 1);
        due("write through the other", x.write(0, 1, -7), 1);
        due("not in the copy", x.write(2, 1, 1), REFUSED);
        due("close in one", x.close(0, 0), true);
        readIs(x, 1, 0, CLOSED);
        readIs(x, 2, 0, END);
        due("exit of one", x.exit(0), 3);
        due("the table stays", x.seek(1, 1, 0), true);
        readIs(x, 1, 1, -7);
        due("the number is used again", x.fork(2, 0, false), 0);
        readIs(x, 0, 1, CLOSED);
        readIs(x, 0, 0, END);
    }

    private static void promise4CopiesOfReading() {
        part = "promise 4, copies of a reading";
        BoundTrees x = small();
        due("union", x.bind(0, abs(1), abs(2), 2, false), 2);
        due("open", x.open(0, abs(2)), 0);
        readIs(x, 0, 0, 6);
        due("a copy", x.fork(0, 1, false), 1);
        readIs(x, 0, 0, 7, 5, END);
        readIs(x, 1, 0, 7, 5, END);
        due("anew", x.seek(1, 0, 0), true);
        readIs(x, 0, 0, END);
        readIs(x, 1, 0, 6, 7, 5, END);
    }

    private static void promise5() {
        part = "promise 5";
        BoundTrees x = small();
        due("the only one", x.exit(0), REFUSED);
        for (int p : NO_PROCESSES) {
            due("no process " + p, x.exit(p), REFUSED);
        }
        due("fork", x.fork(0, 1, false), 1);
        due("fork", x.fork(0, 1, false), 2);
        due("open", x.open(1, abs(1, 3)), 0);
        due("bind", x.bind(1, abs(2, 3), abs(1, 3), 0, true), 1);
        due("chdir", x.chdir(1, abs(2, 4)), 7);
        due("remove the open and covered", x.remove(0, abs(1, 3)), 5);
        due("remove the member", x.remove(0, abs(2, 3)), 6);
        due("remove the dot", x.remove(0, abs(2, 4)), 7);
        due("held", x.state(5), 2);
        due("held", x.state(6), 2);
        due("held", x.state(7), 2);
        due("exit", x.exit(1), 2);
        due("free", x.state(5), 0);
        due("free", x.state(6), 0);
        due("free", x.state(7), 0);
        due("it is there no more", x.dot(1), REFUSED);
        due("it is there no more", x.exit(1), REFUSED);
        due("exit", x.exit(0), 1);
        due("the only one", x.exit(2), REFUSED);
        due("still there", x.place(2, abs(1)), 3);
    }

    private static void promise6() {
        part = "promise 6";
        BoundTrees x = small();
        due("a directory", x.chdir(0, abs(2, 4)), 7);
        due("a file", x.chdir(0, abs(1, 3)), NOT_DIRECTORY);
        due("below a file", x.chdir(0, abs(1, 3, 3)), NOT_DIRECTORY);
        due("not there", x.chdir(0, abs(9)), NOT_FOUND);
        due("dot is as before", x.dot(0), abs(2, 4));
        due("to itself", x.chdir(0, HERE), 7);
        due("back", x.chdir(0, BACK), 4);
        due("dot", x.dot(0), abs(2));
        for (int path : NO_PATHS) {
            due("no path " + path, x.chdir(0, path), REFUSED);
        }
        for (int p : NO_PROCESSES) {
            due("no process " + p, x.chdir(p, ROOT), REFUSED);
        }
        due("into 7", x.chdir(0, from(4)), 7);
        due("make below", x.create(0, from(1), true), 8);
        due("into 8", x.chdir(0, from(1)), 8);
        due("remove 8", x.remove(0, HERE), 8);
        due("remove 7, which is inside the trail", x.remove(0, abs(2, 4)), 7);
        due("held", x.state(7), 2);
        due("held", x.state(8), 2);
        due("two back", x.chdir(0, from(BACK, BACK)), 4);
        due("free", x.state(7), 0);
        due("free", x.state(8), 0);
    }

    private static void promise7() {
        part = "promise 7";
        BoundTrees x = small();
        due("root", x.dot(0), -1);
        due("bind", x.bind(0, abs(2), abs(1), 0, false), 1);
        due("through a union", x.chdir(0, abs(1, 4)), 7);
        due("the names on the way", x.dot(0), abs(1, 4));
        due("bind away", x.unmount(0, NONE, abs(1)), 0);
        due("names stay", x.dot(0), abs(1, 4));
        due("back is by the trail", x.place(0, BACK), 3);
        due("the path may lead nowhere now", x.place(0, abs(1, 4)), NOT_FOUND);
        for (int p : NO_PROCESSES) {
            due("no process " + p, x.dot(p), REFUSED);
        }
    }

    private static void promise8() {
        part = "promise 8";
        BoundTrees x = small();
        due("before", x.bind(0, abs(2), abs(1), 1, true), 2);
        seenIs(x, 0, abs(1), 4, 3);
        due("CREATE with the one that came", x.create(0, abs(1, 9), false), 8);
        due("parent", x.about(8, 4), 4);
        due("after", x.bind(0, abs(2, 4), abs(1), 2, true), 3);
        seenIs(x, 0, abs(1), 4, 3, 7);
        due("before, no CREATE", x.bind(0, ROOT, abs(1), 1, false), 4);
        seenIs(x, 0, abs(1), 0, 4, 3, 7);
        due("CREATE stays where it was", x.create(0, abs(1, 8), false), 9);
        due("parent", x.about(9, 4), 4);
        due("what is SEEN, not the place", x.bind(0, abs(1), abs(2), 0, false), 4);
        seenIs(x, 0, abs(2), 0, 4, 3, 7);
        due("none comes with CREATE", x.create(0, abs(2, 7), true), NO_CREATE);
        due("too many", x.bind(0, abs(1), abs(2), 2, false), FULL);
        due("too many", x.bind(0, abs(1), abs(2), 1, false), FULL);
        seenIs(x, 0, abs(2), 0, 4, 3, 7);
        due("on a place not covered there would be five", x.bind(0, abs(1), ROOT, 1, false), 5);
        seenIs(x, 0, ROOT, 0, 4, 3, 7, 0);
        due("replace", x.bind(0, abs(1), ROOT, 0, false), 4);
        seenIs(x, 0, ROOT, 0, 4, 3, 7);
    }

    private static void promise8OverItself() {
        part = "promise 8, over itself";
        BoundTrees x = small();
        due("itself", x.bind(0, abs(1), abs(1), 0, false), 1);
        seenIs(x, 0, abs(1), 3);
        due("now covered", x.create(0, abs(1, 9), true), NO_CREATE);
        due("after", x.bind(0, abs(1), abs(1), 2, true), 2);
        seenIs(x, 0, abs(1), 3, 3);
        due("both", x.bind(0, abs(1), abs(1), 1, false), 4);
        due("the fourth has CREATE", x.create(0, abs(1, 9), true), 8);
        due("replace", x.bind(0, abs(1), abs(1), 0, true), 4);
        due("unmount the first", x.unmount(0, abs(1), abs(1)), 3);
        due("not covered by itself", x.bind(0, abs(2), abs(2), 1, false), 2);
        seenIs(x, 0, abs(2), 4, 4);
    }

    private static void promise8Five() {
        part = "promise 8, five members";
        BoundTrees x = small();
        due("two", x.bind(0, abs(2), abs(1), 2, false), 2);
        due("four", x.bind(0, abs(1), abs(1), 2, false), 4);
        due("five", x.mount(0, 2, abs(1), 1, true), 5);
        due("five over another", x.bind(0, abs(1), abs(2), 0, false), 5);
        seenIs(x, 0, abs(2), 2, 3, 4, 3, 4);
        due("five and itself", x.bind(0, abs(1), abs(2, 4), 1, false), FULL);
        due("no room before", x.bind(0, abs(2, 4), abs(2), 1, false), FULL);
        due("no room behind", x.bind(0, abs(2, 4), abs(2), 2, false), FULL);
        due("open five", x.open(0, abs(2)), 0);
        readIs(x, 0, 0, 5, 6, 7, 5, 6, 7, END);
        due("the middle one goes", x.unmount(0, abs(2), abs(2)), 4);
        seenIs(x, 0, abs(2), 2, 3, 3, 4);
        due("the other list is its own", x.seen(0, abs(1), 2), 4);
    }

    private static void promise8Refusals() {
        part = "promise 8, refusals";
        BoundTrees x = small();
        due("directory over file", x.bind(0, abs(1), abs(1, 3), 0, true), KIND);
        due("file over directory", x.bind(0, abs(1, 3), abs(1), 0, true), KIND);
        due("files before", x.bind(0, abs(1, 3), abs(2, 3), 1, true), KIND);
        due("files after", x.bind(0, abs(1, 3), abs(2, 3), 2, true), KIND);
        due("files", x.bind(0, abs(1, 3), abs(2, 3), 0, true), 1);
        seenIs(x, 0, abs(2, 3), 5);
        due("the place is as before", x.place(0, abs(2, 3)), 6);
        due("order", x.bind(0, abs(1), abs(2), 3, true), REFUSED);
        due("order", x.bind(0, abs(1), abs(2), -1, true), REFUSED);
        due("order before evaluation", x.bind(0, abs(9), abs(2), 3, true), REFUSED);
        due("no path before evaluation", x.bind(0, abs(9), 11, 0, true), REFUSED);
        due("fresh first", x.bind(0, abs(9), abs(1, 3, 1), 0, true), NOT_FOUND);
        due("fresh first", x.bind(0, abs(1, 3, 1), abs(9), 0, true), NOT_DIRECTORY);
        due("then old", x.bind(0, abs(1), abs(9), 0, true), NOT_FOUND);
        for (int path : NO_PATHS) {
            due("no path " + path, x.bind(0, path, abs(1), 0, true), REFUSED);
            due("no path " + path, x.bind(0, abs(1), path, 0, true), REFUSED);
        }
        for (int p : NO_PROCESSES) {
            due("no process " + p, x.bind(p, abs(1), abs(2), 0, true), REFUSED);
        }
        seenIs(x, 0, abs(1), 3);
        seenIs(x, 0, abs(2), 4);
    }

    private static void promise8Covers() {
        part = "promise 8, seven covered";
        BoundTrees x = new BoundTrees();
        for (int i = 1; i <= 7; i++) {
            due("make", x.create(0, abs(i), true), 2 + i);
        }
        due("make", x.create(0, abs(7, 1), false), 10);
        for (int i = 1; i <= 6; i++) {
            due("cover " + i, x.bind(0, abs(7), abs(i), 0, true), 1);
        }
        due("a seventh", x.bind(0, abs(1), abs(7), 0, true), FULL);
        due("a seventh", x.bind(0, abs(1), abs(7), 2, true), FULL);
        due("a seventh", x.mount(0, 1, abs(7), 1, true), FULL);
        due("KIND before FULL", x.bind(0, abs(1), abs(7, 1), 0, true), KIND);
        due("one of the six", x.bind(0, abs(7), abs(3), 1, true), 2);
        seenIs(x, 0, abs(7), 9);
        due("fork", x.fork(0, 2, true), 1);
        due("another space has room", x.bind(1, abs(1), abs(7), 0, true), 1);
        due("one less", x.unmount(0, abs(7), abs(4)), 0);
        due("now there is room", x.bind(0, abs(4), abs(7), 2, true), 2);
        seenIs(x, 0, abs(7), 9, 6);
        due("full again", x.bind(0, abs(7), abs(4), 2, true), FULL);
    }

    private static void promise8ReplacedAreLetGo() {
        part = "promise 8, the replaced are let go";
        BoundTrees x = small();
        due("bind", x.bind(0, abs(2, 4), abs(1), 0, true), 1);
        due("remove the member", x.remove(0, abs(2, 4)), 7);
        due("held", x.state(7), 2);
        seenIs(x, 0, abs(1), 7);
        due("GONE ones are bound, too", x.bind(0, abs(1), abs(2), 2, true), 2);
        seenIs(x, 0, abs(2), 4, 7);
        due("create in a GONE one", x.create(0, abs(1, 1), true), NOT_FOUND);
        due("replace", x.bind(0, abs(2), abs(1), 0, true), 2);
        due("replace", x.mount(0, 1, abs(1), 0, true), 1);
        due("held by the other", x.state(7), 2);
        due("replace", x.mount(0, 1, abs(2), 0, true), 1);
        due("free", x.state(7), 0);
    }

    private static void promise9() {
        part = "promise 9";
        BoundTrees x = small();
        due("mount", x.mount(0, 1, abs(1), 0, true), 1);
        seenIs(x, 0, abs(1), 1);
        due("the place stays", x.place(0, abs(1)), 3);
        due("make in tree 1", x.create(0, abs(1, 7), true), 8);
        due("parent", x.about(8, 4), 1);
        due("mount over the root", x.mount(0, 2, ROOT, 1, false), 2);
        seenIs(x, 0, ROOT, 2, 0);
        due("itself, whatever is SEEN", x.mount(0, 0, abs(2), 2, false), 2);
        seenIs(x, 0, abs(2), 4, 0);
        due("before", x.mount(0, 2, abs(2), 1, true), 3);
        seenIs(x, 0, abs(2), 2, 4, 0);
        due("more", x.mount(0, 2, abs(2), 1, true), 4);
        due("more", x.mount(0, 2, abs(2), 2, true), 5);
        due("too many", x.mount(0, 2, abs(2), 2, true), FULL);
        due("too many", x.mount(0, 2, abs(2), 1, true), FULL);
        seenIs(x, 0, abs(2), 2, 2, 4, 0, 2);
        due("over a file", x.mount(0, 1, abs(2, 3), 0, true), KIND);
        due("over a file", x.mount(0, 1, abs(2, 3), 1, true), KIND);
        due("tree", x.mount(0, 3, abs(2), 0, true), REFUSED);
        due("tree", x.mount(0, -1, abs(2), 0, true), REFUSED);
        due("order", x.mount(0, 1, abs(2), 3, true), REFUSED);
        due("order", x.mount(0, 1, abs(2), -1, true), REFUSED);
        due("order before evaluation", x.mount(0, 1, abs(9), 3, true), REFUSED);
        due("evaluation", x.mount(0, 1, abs(9), 0, true), NOT_FOUND);
        for (int path : NO_PATHS) {
            due("no path " + path, x.mount(0, 1, path, 0, true), REFUSED);
        }
        for (int p : NO_PROCESSES) {
            due("no process " + p, x.mount(p, 1, abs(1), 0, true), REFUSED);
        }
    }

    private static void promise10() {
        part = "promise 10";
        BoundTrees x = small();
        due("not covered", x.unmount(0, abs(1), abs(1)), NOT_BOUND);
        due("not covered", x.unmount(0, NONE, abs(1)), NOT_BOUND);
        due("bind", x.bind(0, abs(2), abs(1), 2, true), 2);
        due("bind", x.bind(0, abs(2, 4), abs(1), 2, false), 3);
        due("bind", x.bind(0, abs(2), abs(1), 2, false), 4);
        seenIs(x, 0, abs(1), 3, 4, 7, 4);
        due("no such member", x.unmount(0, ROOT, abs(1)), NOT_BOUND);
        due("the first of two", x.unmount(0, abs(2), abs(1)), 3);
        seenIs(x, 0, abs(1), 3, 7, 4);
        due("CREATE went with it", x.create(0, abs(1, 9), true), NO_CREATE);
        due("itself", x.unmount(0, abs(1), abs(1)), 2);
        seenIs(x, 0, abs(1), 7, 4);
        due("the next", x.unmount(0, abs(2), abs(1)), 1);
        due("no more of it", x.unmount(0, abs(2), abs(1)), NOT_BOUND);
        due("the last", x.unmount(0, abs(2, 4), abs(1)), 0);
        seenIs(x, 0, abs(1), 3);
        due("covered no more", x.unmount(0, abs(1), abs(1)), NOT_BOUND);
        due("so created in itself", x.create(0, abs(1, 9), true), 8);
        due("parent", x.about(8, 4), 3);
    }

    private static void promise10PlaceOfFresh() {
        part = "promise 10, the place of fresh";
        BoundTrees x = small();
        due("mount", x.mount(0, 1, abs(1), 0, true), 1);
        due("bind what is SEEN", x.bind(0, abs(1), abs(2), 0, true), 1);
        due("it is the place that is sought", x.unmount(0, abs(1), abs(2)), NOT_BOUND);
        due("all", x.unmount(0, NONE, abs(2)), 0);
        due("a GONE member: all", x.bind(0, abs(2, 4), abs(2), 0, true), 1);
        due("fork", x.fork(0, 2, true), 1);
        due("remove", x.remove(1, abs(2, 4)), 7);
        due("held", x.state(7), 2);
        due("it can't be named", x.unmount(0, abs(2, 4), abs(2)), NOT_FOUND);
        due("all", x.unmount(0, NONE, abs(2)), 0);
        due("free", x.state(7), 0);
    }

    private static void promise10Refusals() {
        part = "promise 10, refusals";
        BoundTrees x = small();
        due("bind", x.bind(0, abs(2), abs(1), 2, true), 2);
        due("fresh not there", x.unmount(0, abs(9), abs(1)), NOT_FOUND);
        due("old not there", x.unmount(0, abs(2), abs(9)), NOT_FOUND);
        due("old not there", x.unmount(0, NONE, abs(9)), NOT_FOUND);
        due("old is NONE", x.unmount(0, abs(2), NONE), REFUSED);
        due("both NONE", x.unmount(0, NONE, NONE), REFUSED);
        for (int path : NO_PATHS) {
            due("no path " + path, x.unmount(0, abs(1), path), REFUSED);
            if (path != NONE) {
                due("no path " + path, x.unmount(0, path, abs(1)), REFUSED);
                due("no path " + path + " before evaluation", x.unmount(0, path, abs(9)), REFUSED);
            }
        }
        for (int p : NO_PROCESSES) {
            due("no process " + p, x.unmount(p, NONE, abs(1)), REFUSED);
        }
        seenIs(x, 0, abs(1), 3, 4);
    }

    private static void promise11() {
        part = "promise 11";
        BoundTrees x = small();
        due("a new file", x.state(5), 1);
        due("version of a new one", x.about(7, 0), 0);
        due("it grew with its children", x.about(4, 0), 2);
        due("root grew", x.about(0, 0), 2);
        due("exists", x.create(0, abs(1), false), EXISTS);
        due("exists", x.create(0, abs(2, 3), true), EXISTS);
        due("below a file", x.create(0, abs(1, 3, 1), true), NOT_DIRECTORY);
        due("further below a file", x.create(0, abs(1, 3, 1, 1), true), NOT_DIRECTORY);
        due("below nothing", x.create(0, abs(9, 1), true), NOT_FOUND);
        due("back inside the path", x.create(0, abs(1, BACK, 5), true), 8);
        due("parent", x.about(8, 4), 0);
        due("no name", x.create(0, ROOT, true), REFUSED);
        due("no name", x.create(0, HERE, true), REFUSED);
        due("back", x.create(0, abs(1, BACK), true), REFUSED);
        due("back", x.create(0, BACK, true), REFUSED);
        due("back before evaluation", x.create(0, abs(9, BACK), true), REFUSED);
        for (int path : NO_PATHS) {
            due("no path " + path, x.create(0, path, true), REFUSED);
        }
        for (int p : NO_PROCESSES) {
            due("no process " + p, x.create(p, abs(6), true), REFUSED);
        }
        due("chdir", x.chdir(0, abs(5)), 8);
        due("from dot", x.create(0, from(9), true), 9);
        due("from dot", x.create(0, from(9, 9), false), 10);
        due("place", x.place(0, abs(5, 9, 9)), 10);
        due("remove", x.remove(0, abs(1, 3)), 5);
        due("the least free", x.create(0, abs(1, 4), true), 5);
        due("nothing of the one before", x.about(5, 0), 0);
    }

    private static void promise11Unions() {
        part = "promise 11, unions";
        BoundTrees x = small();
        due("after, CREATE", x.bind(0, abs(2), abs(1), 2, true), 2);
        due("in the second", x.create(0, abs(1, 9), true), 8);
        due("parent", x.about(8, 4), 4);
        due("EXISTS in any of them", x.create(0, abs(1, 4), true), EXISTS);
        due("no CREATE", x.bind(0, abs(2), abs(1), 0, false), 1);
        due("hidden name: NO_CREATE", x.create(0, abs(1, 8), true), NO_CREATE);
        due("EXISTS before NO_CREATE", x.create(0, abs(1, 3), true), EXISTS);
        due("GONE one with CREATE first", x.bind(0, abs(2, 4), abs(1), 1, true), 2);
        due("remove it", x.remove(0, abs(2, 4)), 7);
        due("NOT_FOUND, though another follows", x.create(0, abs(1, 8), true), NOT_FOUND);
        due("EXISTS before NOT_FOUND", x.create(0, abs(1, 3), true), EXISTS);
        due("after it one with CREATE", x.bind(0, abs(2), abs(1), 2, true), 3);
        due("the first counts", x.create(0, abs(1, 8), true), NOT_FOUND);
        due("hidden name", x.mount(0, 1, abs(1), 0, true), 1);
        due("3 is not SEEN, so not there", x.create(0, abs(1, 3), true), 7);
        due("parent", x.about(7, 4), 1);
    }

    private static void promise11Full() {
        part = "promise 11, FULL";
        BoundTrees x = new BoundTrees();
        int made = 3;
        for (int i = 1; i <= 5; i++) {
            due("make", x.create(0, abs(i), true), made++);
        }
        for (int i = 1; i <= 5 && made < 48; i++) {
            for (int j = 1; j <= 9 && made < 48; j++) {
                due("make", x.create(0, abs(i, j), false), made++);
            }
        }
        due("all are there", x.state(47), 1);
        due("full", x.create(0, abs(9), true), FULL);
        due("EXISTS before FULL", x.create(0, abs(1), true), EXISTS);
        due("NOT_DIRECTORY before FULL", x.create(0, abs(1, 1, 1), true), NOT_DIRECTORY);
        due("cover", x.bind(0, abs(1), abs(2), 0, false), 1);
        due("cover", x.bind(0, abs(5), abs(1), 0, false), 1);
        due("NO_CREATE before FULL", x.create(0, abs(1, 9), true), NO_CREATE);
        due("version", x.about(0, 0), 5);
        due("open", x.open(0, abs(3, 1)), 0);
        due("remove", x.remove(0, abs(3, 1)), 26);
        due("GONE is not free", x.create(0, abs(9), true), FULL);
        due("close", x.close(0, 0), true);
        due("now it is", x.create(0, abs(9), true), 26);
    }

    private static void promise12() {
        part = "promise 12";
        BoundTrees x = small();
        due("children", x.remove(0, abs(2)), NOT_EMPTY);
        due("root", x.remove(0, ROOT), KIND);
        due("root", x.remove(0, abs(1, BACK)), KIND);
        due("KIND before NOT_EMPTY", x.remove(0, HERE), KIND);
        due("not there", x.remove(0, abs(9)), NOT_FOUND);
        due("below a file", x.remove(0, abs(1, 3, 3)), NOT_DIRECTORY);
        for (int path : NO_PATHS) {
            due("no path " + path, x.remove(0, path), REFUSED);
        }
        for (int p : NO_PROCESSES) {
            due("no process " + p, x.remove(p, abs(1, 3)), REFUSED);
        }
        due("a file", x.remove(0, abs(1, 3)), 5);
        due("free", x.state(5), 0);
        due("its parent's version grew", x.about(3, 0), 2);
        due("found no more", x.place(0, abs(1, 3)), NOT_FOUND);
        due("a directory", x.remove(0, abs(1)), 3);
        due("free", x.state(3), 0);
        due("root's version", x.about(0, 0), 3);
        due("root's children", x.about(0, 2), 1);
        due("gone at once from all", x.place(0, abs(1)), NOT_FOUND);
    }

    private static void promise12Unions() {
        part = "promise 12, unions";
        BoundTrees x = small();
        due("what covers it has children, it has none", x.bind(0, abs(1), abs(2, 4), 0, true), 1);
        due("place, not what is SEEN", x.remove(0, abs(2, 4)), 7);
        due("covered, so held", x.state(7), 2);
        due("parent's version grew", x.about(4, 0), 3);
        due("through a union", x.bind(0, abs(2), abs(1), 1, false), 2);
        due("the first found", x.remove(0, abs(1, 3)), 6);
        due("then the next", x.remove(0, abs(1, 3)), 5);
        due("then none", x.remove(0, abs(1, 3)), NOT_FOUND);
        due("versions", x.about(4, 0), 4);
        due("versions", x.about(3, 0), 2);
        due("fork", x.fork(0, 1, true), 1);
        due("exit", x.exit(0), 1);
        due("held in the copy", x.state(7), 2);
    }

    private static void promise13() {
        part = "promise 13";
        BoundTrees x = small();
        for (int d = 0; d < 4; d++) {
            due("open", x.open(0, abs(1, 3)), d);
        }
        due("all open", x.open(0, abs(1, 3)), FULL);
        due("evaluation before FULL", x.open(0, abs(9)), NOT_FOUND);
        due("close", x.close(0, 2), true);
        due("close", x.close(0, 1), true);
        due("the least", x.open(0, abs(2)), 1);
        due("below a file", x.open(0, abs(1, 3, 3)), NOT_DIRECTORY);
        for (int path : NO_PATHS) {
            due("no path " + path, x.open(0, path), REFUSED);
        }
        for (int p : NO_PROCESSES) {
            due("no process " + p, x.open(p, abs(1)), REFUSED);
        }
    }

    private static void promise13Seen() {
        part = "promise 13, what is SEEN";
        BoundTrees x = small();
        due("a file over another", x.bind(0, abs(1, 3), abs(2, 3), 0, false), 1);
        due("open", x.open(0, abs(2, 3)), 0);
        due("write", x.write(0, 0, 77), 1);
        due("it went to the member", x.about(5, 1), 1);
        due("not to the place", x.about(6, 1), 0);
        due("unmount", x.unmount(0, NONE, abs(2, 3)), 0);
        due("what was SEEN then", x.write(0, 0, 78), 2);
        due("it goes on", x.about(5, 1), 2);
        due("the place is not held", x.remove(0, abs(2, 3)), 6);
        due("free", x.state(6), 0);
        due("the member is", x.remove(0, abs(1, 3)), 5);
        due("gone", x.state(5), 2);
        due("union", x.bind(0, abs(2, 4), abs(1), 2, false), 2);
        due("open", x.open(0, abs(1)), 1);
        due("unmount", x.unmount(0, NONE, abs(1)), 0);
        due("remove a member", x.remove(0, abs(2, 4)), 7);
        due("all of them are held", x.state(7), 2);
        due("remove the other", x.remove(0, abs(1)), 3);
        due("all of them are held", x.state(3), 2);
        readIs(x, 0, 1, END);
        due("close", x.close(0, 1), true);
        due("free", x.state(7), 0);
        due("free", x.state(3), 0);
    }

    private static void promise14Files() {
        part = "promise 14, files";
        BoundTrees x = small();
        due("open", x.open(0, abs(1, 3)), 0);
        readIs(x, 0, 0, END, END);
        due("write", x.write(0, 0, Integer.MIN_VALUE), 1);
        due("write", x.write(0, 0, Integer.MAX_VALUE), 2);
        due("write", x.write(0, 0, -1), 3);
        due("open", x.open(0, abs(1, 3)), 1);
        readIs(x, 0, 1, Integer.MIN_VALUE, Integer.MAX_VALUE, -1, END, END);
        due("write through the other", x.write(0, 0, 4), 4);
        readIs(x, 0, 1, 4, END);
        due("reading leaves the version", x.about(5, 0), 4);
        readIs(x, 0, 2, CLOSED);
        readIs(x, 0, 4, CLOSED);
        readIs(x, 0, -1, CLOSED);
        readIs(x, 0, Integer.MAX_VALUE, CLOSED);
        readIs(x, 0, Integer.MIN_VALUE, CLOSED);
        for (int p : NO_PROCESSES) {
            due("no process " + p, x.read(p, 0), CLOSED);
        }
    }

    private static void promise14Directories() {
        part = "promise 14, directories";
        BoundTrees x = small();
        due("remove", x.remove(0, abs(1, 3)), 5);
        due("open", x.open(0, abs(2)), 0);
        due("made last, with a lesser number", x.create(0, abs(2, 1), true), 5);
        readIs(x, 0, 0, 6);
        due("the one read is removed", x.remove(0, abs(2, 3)), 6);
        readIs(x, 0, 0, 7);
        due("the next one is removed", x.remove(0, abs(2, 1)), 5);
        readIs(x, 0, 0, END, END);
        due("made since", x.create(0, abs(2, 9), false), 5);
        due("made since", x.create(0, abs(2, 8), false), 6);
        readIs(x, 0, 0, 5, 6, END);
        due("a number used again comes again", x.remove(0, abs(2, 9)), 5);
        due("a number used again comes again", x.create(0, abs(2, 9), false), 5);
        readIs(x, 0, 0, 5, END);
        due("anew", x.seek(0, 0, 0), true);
        readIs(x, 0, 0, 7, 6, 5, END);
        due("only making and removing changed the version", x.about(4, 0), 9);
    }

    private static void promise14Unions() {
        part = "promise 14, unions";
        BoundTrees x = small();
        due("union", x.bind(0, abs(1), abs(2), 2, false), 2);
        due("CREATE first", x.bind(0, ROOT, abs(2), 1, true), 3);
        due("open", x.open(0, abs(2)), 0);
        due("later covers don't matter", x.unmount(0, NONE, abs(2)), 0);
        readIs(x, 0, 0, 3, 4);
        due("made in the first meanwhile", x.create(0, abs(9), true), 8);
        readIs(x, 0, 0, 8, 6);
        due("made in the first, which is done with", x.create(0, abs(8), true), 9);
        due("made in the second", x.create(0, abs(2, 9), true), 10);
        readIs(x, 0, 0, 7, 10, 5, END);
        due("made in the second, done with", x.create(0, abs(2, 8), true), 11);
        readIs(x, 0, 0, END);
        due("made in the third", x.create(0, abs(1, 8), true), 12);
        readIs(x, 0, 0, 12, END);
        due("anew", x.seek(0, 0, 0), true);
        readIs(x, 0, 0, 3, 4, 8, 9, 6, 7, 10, 11, 5, 12, END);
    }

    private static void promise14EmptyMembers() {
        part = "promise 14, empty members";
        BoundTrees x = new BoundTrees();
        due("make", x.create(0, abs(1), true), 3);
        due("make", x.create(0, abs(2), true), 4);
        due("make", x.create(0, abs(3), true), 5);
        due("union", x.bind(0, abs(2), abs(1), 2, false), 2);
        due("union", x.bind(0, abs(3), abs(1), 2, false), 3);
        due("open", x.open(0, abs(1)), 0);
        due("make in the last", x.create(0, abs(3, 1), false), 6);
        readIs(x, 0, 0, 6, END);
        due("the first two are done with", x.create(0, abs(2, 1), false), 7);
        readIs(x, 0, 0, END);
        due("open", x.open(0, abs(2)), 1);
        readIs(x, 0, 1, 7, END);
        due("the root behind", x.mount(0, 0, abs(3), 2, false), 2);
        due("open", x.open(0, abs(3)), 2);
        readIs(x, 0, 2, 6, 3, 4, 5, END);
        due("close", x.close(0, 2), true);
        due("the root itself", x.open(0, ROOT), 2);
        readIs(x, 0, 2, 3, 4, 5, END);
        due("close", x.close(0, 2), true);
        due("a member twice", x.bind(0, abs(2), abs(2), 2, false), 2);
        due("open", x.open(0, abs(2)), 2);
        readIs(x, 0, 2, 7, 7, END);
    }

    private static void promise14EndOfUnions() {
        part = "promise 14, END of unions";
        BoundTrees x = new BoundTrees();
        due("make", x.create(0, abs(1), true), 3);
        due("make", x.create(0, abs(2), true), 4);
        due("union of two empty ones", x.bind(0, abs(2), abs(1), 1, true), 2);
        due("open", x.open(0, abs(1)), 0);
        due("open, not read", x.open(0, abs(1)), 1);
        readIs(x, 0, 0, END);
        due("made in the first, which is done with", x.create(0, abs(1, 1), false), 5);
        due("parent", x.about(5, 4), 4);
        readIs(x, 0, 0, END);
        readIs(x, 0, 1, 5);
        due("unmount", x.unmount(0, NONE, abs(1)), 0);
        due("made in the last", x.create(0, abs(1, 2), false), 6);
        readIs(x, 0, 0, 6, END);
        due("made in the first", x.create(0, abs(2, 2), false), 7);
        readIs(x, 0, 0, END);
        readIs(x, 0, 1, 7, 6, END);
        due("anew", x.seek(0, 0, 0), true);
        readIs(x, 0, 0, 5, 7, 6, END);
    }

    /** END of a full first directory, with the last one empty, moves on to the last one too. */
    private static void promise14EndBehindAnEmptyLast() {
        part = "promise 14, END behind an empty last one";
        BoundTrees x = small();
        due("make", x.create(0, abs(5), true), 8);
        due("make", x.create(0, abs(6), true), 9);
        due("union", x.bind(0, abs(5), abs(2), 2, false), 2);
        due("union", x.bind(0, abs(6), abs(2), 2, false), 3);
        due("open", x.open(0, abs(2)), 0);
        readIs(x, 0, 0, 6, 7);
        due("a copy from before END", x.fork(0, 2, false), 1);
        readIs(x, 0, 0, END);
        due("a copy from after END", x.fork(0, 2, false), 2);
        due("in the first", x.create(1, abs(2, 9), false), 10);
        due("in the second", x.create(1, abs(5, 9), false), 11);
        readIs(x, 0, 0, END);
        due("in the last", x.create(1, abs(6, 9), false), 12);
        due("in the last", x.create(1, abs(6, 8), false), 13);
        due("gone before it is read", x.remove(1, abs(6, 9)), 12);
        readIs(x, 0, 0, 13, END);
        readIs(x, 1, 0, 10, 11, 13, END);
        readIs(x, 2, 0, 13, END);
    }

    private static void promise14EndOfOneTwice() {
        part = "promise 14, END of a directory that is a member twice";
        BoundTrees x = new BoundTrees();
        due("the root before itself", x.bind(0, ROOT, ROOT, 1, true), 2);
        due("shared", x.fork(0, 0, true), 1);
        due("open", x.open(0, ROOT), 0);
        readIs(x, 0, 0, END);
        due("made since", x.create(0, abs(1), false), 3);
        readIs(x, 1, 0, 3);
        readIs(x, 0, 0, END);
        due("anew", x.seek(1, 0, 0), true);
        readIs(x, 0, 0, 3, 3, END);
    }

    private static void promise15() {
        part = "promise 15";
        BoundTrees x = small();
        due("open", x.open(0, abs(1, 3)), 0);
        for (int i = 1; i <= 6; i++) {
            due("write", x.write(0, 0, 10 * i), i);
        }
        due("full", x.write(0, 0, 70), FULL);
        due("ints", x.about(5, 1), 6);
        due("version", x.about(5, 0), 6);
        due("seek", x.seek(0, 0, 2), true);
        due("in place", x.write(0, 0, -3), 3);
        readIs(x, 0, 0, 40);
        due("ints", x.about(5, 1), 6);
        due("version", x.about(5, 0), 7);
        due("seek", x.seek(0, 0, 0), true);
        readIs(x, 0, 0, 10, 20, -3, 40, 50, 60, END);
        due("open a directory", x.open(0, abs(2)), 1);
        due("a directory", x.write(0, 1, 1), REFUSED);
        due("not open", x.write(0, 2, 1), REFUSED);
        due("no descriptor", x.write(0, 4, 1), REFUSED);
        due("no descriptor", x.write(0, -1, 1), REFUSED);
        for (int p : NO_PROCESSES) {
            due("no process " + p, x.write(p, 0, 1), REFUSED);
        }
        due("remove", x.remove(0, abs(1, 3)), 5);
        due("what it held stays", x.about(5, 1), 6);
        due("its version stays", x.about(5, 0), 7);
        due("seek", x.seek(0, 0, 5), true);
        due("held, so still written", x.write(0, 0, 66), 6);
        due("version", x.about(5, 0), 8);
    }

    private static void promise16() {
        part = "promise 16";
        BoundTrees x = small();
        due("open", x.open(0, abs(1, 3)), 0);
        due("an empty file", x.seek(0, 0, 0), true);
        due("behind its end", x.seek(0, 0, 1), false);
        due("write", x.write(0, 0, 1), 1);
        due("write", x.write(0, 0, 2), 2);
        due("seek", x.seek(0, 0, 1), true);
        readIs(x, 0, 0, 2);
        due("to the end", x.seek(0, 0, 2), true);
        readIs(x, 0, 0, END);
        due("seek", x.seek(0, 0, 0), true);
        due("too far", x.seek(0, 0, 3), false);
        due("below 0", x.seek(0, 0, -1), false);
        due("far", x.seek(0, 0, Integer.MAX_VALUE), false);
        due("far", x.seek(0, 0, Integer.MIN_VALUE), false);
        readIs(x, 0, 0, 1);
        due("open", x.open(0, abs(2)), 1);
        readIs(x, 0, 1, 6);
        due("directories: 0 alone", x.seek(0, 1, 1), false);
        due("directories: 0 alone", x.seek(0, 1, -1), false);
        readIs(x, 0, 1, 7);
        due("anew", x.seek(0, 1, 0), true);
        readIs(x, 0, 1, 6);
        due("not open", x.seek(0, 2, 0), false);
        due("no descriptor", x.seek(0, 4, 0), false);
        due("no descriptor", x.seek(0, -1, 0), false);
        for (int p : NO_PROCESSES) {
            due("no process " + p, x.seek(p, 0, 0), false);
        }
    }

    private static void promise17() {
        part = "promise 17";
        BoundTrees x = small();
        due("open", x.open(0, abs(1, 3)), 0);
        due("open", x.open(0, abs(1, 3)), 1);
        due("remove", x.remove(0, abs(1, 3)), 5);
        due("close", x.close(0, 0), true);
        due("held by the other", x.state(5), 2);
        due("closed", x.close(0, 0), false);
        due("close", x.close(0, 1), true);
        due("free", x.state(5), 0);
        readIs(x, 0, 1, CLOSED);
        due("never open", x.close(0, 3), false);
        due("no descriptor", x.close(0, 4), false);
        due("no descriptor", x.close(0, -1), false);
        for (int p : NO_PROCESSES) {
            due("no process " + p, x.close(p, 0), false);
        }
    }

    private static void promise18() {
        part = "promise 18";
        BoundTrees x = small();
        due("there", x.state(7), 1);
        due("free", x.state(8), 0);
        due("free", x.state(47), 0);
        due("none", x.state(48), REFUSED);
        due("none", x.state(-1), REFUSED);
        due("none", x.state(Integer.MAX_VALUE), REFUSED);
        due("none", x.state(Integer.MIN_VALUE), REFUSED);
        due("chdir", x.chdir(0, abs(2, 4)), 7);
        due("remove", x.remove(0, HERE), 7);
        due("gone", x.state(7), 2);
    }

    private static void promise19() {
        part = "promise 19";
        BoundTrees x = small();
        for (int root = 0; root < 3; root++) {
            due("name of a root", x.about(root, 3), 0);
            due("parent of a root", x.about(root, 4), -1);
            due("ints of a root", x.about(root, 1), 0);
        }
        due("version", x.about(4, 0), 2);
        due("ints", x.about(4, 1), 0);
        due("children", x.about(4, 2), 2);
        due("name", x.about(4, 3), 2);
        due("parent", x.about(4, 4), 0);
        due("children of a file", x.about(6, 2), 0);
        due("name", x.about(6, 3), 3);
        due("parent", x.about(6, 4), 4);
        due("free", x.about(8, 0), REFUSED);
        due("no node", x.about(48, 0), REFUSED);
        due("no node", x.about(-1, 0), REFUSED);
        due("no node", x.about(Integer.MIN_VALUE, 0), REFUSED);
        due("what", x.about(4, 5), REFUSED);
        due("what", x.about(4, -1), REFUSED);
        due("what", x.about(4, Integer.MAX_VALUE), REFUSED);
        due("chdir", x.chdir(0, abs(2, 4)), 7);
        due("make", x.create(0, from(5), true), 8);
        due("chdir", x.chdir(0, from(5)), 8);
        due("remove", x.remove(0, HERE), 8);
        due("remove", x.remove(0, abs(2, 4)), 7);
        due("the version of a GONE one", x.about(7, 0), 2);
        due("its children", x.about(7, 2), 0);
        due("its name", x.about(8, 3), 5);
        due("its parent of when it was THERE", x.about(8, 4), 7);
        due("its parent of when it was THERE", x.about(7, 4), 4);
        due("leave", x.chdir(0, ROOT), 0);
        due("free", x.about(8, 3), REFUSED);
    }

    private static void promise20() {
        part = "promise 20";
        BoundTrees x = small();
        due("fresh first", x.unmount(0, abs(9), abs(1, 3, 1)), NOT_FOUND);
        due("fresh first", x.unmount(0, abs(1, 3, 1), abs(9)), NOT_DIRECTORY);
        due("fresh before NOT_BOUND", x.unmount(0, abs(9), abs(1)), NOT_FOUND);
        due("then old", x.unmount(0, abs(1), abs(1, 3, 1)), NOT_DIRECTORY);
        due("then NOT_BOUND", x.unmount(0, abs(1), abs(2)), NOT_BOUND);
    }

    public static void main(String[] args) {
        constants();
        promise1();
        promise2();
        promise2Depth();
        promise2GoneOnTheTrail();
        promise3();
        promise4Spaces();
        promise4Anew();
        promise4Descriptors();
        promise4CopiesOfReading();
        promise5();
        promise6();
        promise7();
        promise8();
        promise8OverItself();
        promise8Five();
        promise8Refusals();
        promise8Covers();
        promise8ReplacedAreLetGo();
        promise9();
        promise10();
        promise10PlaceOfFresh();
        promise10Refusals();
        promise11();
        promise11Unions();
        promise11Full();
        promise12();
        promise12Unions();
        promise13();
        promise13Seen();
        promise14Files();
        promise14Directories();
        promise14Unions();
        promise14EmptyMembers();
        promise14EndOfUnions();
        promise14EndBehindAnEmptyLast();
        promise14EndOfOneTwice();
        promise15();
        promise16();
        promise17();
        promise18();
        promise19();
        promise20();
        System.out.println(checks + " checks, " + wrong + " wrong");
        if (wrong != 0) {
            System.exit(1);
        }
    }
}
