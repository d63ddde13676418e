/** Each sentence of the promises 1 to 20 that names a boundary case, with a test of its own: both sides of each limit. */
public final class BoundaryTest {
    private static final int BACK = 10;
    private static final int NONE = 1 << 30;
    private static final int ROOT = -1, HERE = 0;
    private static final int LEAST = Integer.MIN_VALUE, GREATEST = Integer.MAX_VALUE;
    private static final int FREE = 0, THERE = 1, GONE = 2;
    private static final int VERSION = 0, INTS = 1, CHILDREN = 2, NAME = 3, PARENT = 4;
    private static final int REPLACE = 0, BEFORE = 1, AFTER = 2;
    private static final int OWN = 0, COPY = 1, EMPTY = 2;
    private static final int REFUSED = -1, NOT_FOUND = -2, NOT_DIRECTORY = -3, TOO_DEEP = -4, EXISTS = -5;
    private static final int FULL = -6, KIND = -7, NO_CREATE = -8, NOT_EMPTY = -9, NOT_BOUND = -10;
    private static final long END = 1L << 40, CLOSED = -(1L << 40);

    private static int wrong = 0;
    private static int checks = 0;
    private static String part = "";

    private static void due(String what, long got, long want) {
        checks++;
        if (got != want) {
            wrong++;
            System.out.println(part + ": " + what + " answered " + got + ", due is " + want);
        }
    }

    private static void due(String what, boolean got, boolean want) {
        due(what, got ? 1L : 0L, want ? 1L : 0L);
    }

    private static int from(int... elements) {
        int row = 0;
        for (int e : elements) {
            row = row * 11 + e;
        }
        return row;
    }

    private static int abs(int... elements) {
        return -1 - from(elements);
    }

    private static void seenIs(BoundTrees x, int p, int path, int... nodes) {
        for (int k = 0; k < nodes.length; k++) {
            due("seen " + k, x.seen(p, path, k), nodes[k]);
        }
        due("seen behind the last", x.seen(p, path, nodes.length), NONE);
    }

    private static void readIs(BoundTrees x, int p, int d, long... answers) {
        for (int k = 0; k < answers.length; k++) {
            due("read " + k, x.read(p, d), answers[k]);
        }
    }

    private static void statesAre(BoundTrees x, int first, int last, int state) {
        for (int node = first; node <= last; node++) {
            due("state of " + node, x.state(node), state);
        }
    }

    /** Directories 3, 4 and so on under the root, by the names 1, 2 and so on. */
    private static BoundTrees row(int count) {
        BoundTrees x = new BoundTrees();
        for (int i = 1; i <= count; i++) {
            due("make " + i, x.create(0, abs(i), true), 2 + i);
        }
        return x;
    }

    /** Directories 3 and 4 by the names 1 and 2, files 5 and 6 by the names 8 and 9. */
    private static BoundTrees twoAndTwo() {
        BoundTrees x = row(2);
        due("a file", x.create(0, abs(8), false), 5);
        due("a file", x.create(0, abs(9), false), 6);
        return x;
    }

    /** A file 3 by the name 1, with so many ints (the first 10, then 20 and so on), open at 0 behind the last. */
    private static BoundTrees fileOf(int count) {
        BoundTrees x = new BoundTrees();
        due("make", x.create(0, abs(1), false), 3);
        due("open", x.open(0, abs(1)), 0);
        for (int i = 1; i <= count; i++) {
            due("write", x.write(0, 0, 10 * i), i);
        }
        return x;
    }

    /** Directories 3 to 8, each in the one before by the name 1, and DOT the last: a trail of 7. */
    private static BoundTrees chain() {
        BoundTrees x = new BoundTrees();
        for (int i = 0; i < 6; i++) {
            due("make", x.create(0, from(1), true), 3 + i);
            due("down", x.chdir(0, from(1)), 3 + i);
        }
        return x;
    }

    /** Root 1 so many times over a place. */
    private static void cover(BoundTrees x, int path, int count) {
        due("cover", x.mount(0, 1, path, REPLACE, false), 1);
        for (int i = 2; i <= count; i++) {
            due("cover", x.mount(0, 1, path, AFTER, false), i);
        }
    }

    // Promise 1

    private static void newObject() {
        part = "1: Nodes 0 to 2; process 0, with a space in which nothing is covered, DOT the root, nothing open";
        BoundTrees x = new BoundTrees();
        statesAre(x, 0, 2, THERE);
        statesAre(x, 3, 47, FREE);
        due("process 0", x.dot(0), ROOT);
        for (int p = 1; p <= 3; p++) {
            due("no process " + p, x.dot(p), REFUSED);
        }
        due("nothing is covered", x.unmount(0, NONE, ROOT), NOT_BOUND);
        seenIs(x, 0, ROOT, 0);
        due("DOT", x.place(0, HERE), 0);
        for (int d = 0; d < 4; d++) {
            due("not open", x.close(0, d), false);
        }
        due("the root is empty", x.about(0, CHILDREN), 0);
    }

    // Promises 2 and 3

    private static void placeOfAPath() {
        part = "2: The place of a path";
        BoundTrees x = twoAndTwo();
        due("of no element", x.place(0, HERE), 0);
        due("a directory", x.place(0, abs(1)), 3);
        due("a file", x.place(0, abs(8)), 5);
        due("none", x.place(0, abs(3)), NOT_FOUND);
        due("no process", x.place(-1, ROOT), REFUSED);
        due("no process", x.place(1, ROOT), REFUSED);
        due("no path", x.place(0, 11), REFUSED);
        due("fork", x.fork(0, EMPTY, true), 1);
        due("chdir", x.chdir(1, abs(2)), 4);
        due("each by its own DOT", x.place(1, HERE), 4);
        due("each by its own DOT", x.place(0, HERE), 0);
        due("bind", x.bind(0, ROOT, abs(1), REPLACE, false), 1);
        due("each in its own space", x.place(0, abs(1, 8)), 5);
        due("each in its own space", x.place(1, abs(1, 8)), NOT_FOUND);
    }

    private static void seenBehindTheLast() {
        part = "3: The k-th (0 the first); NONE if there is none";
        BoundTrees x = row(2);
        due("0 of one", x.seen(0, abs(1), 0), 3);
        due("1 of one", x.seen(0, abs(1), 1), NONE);
        cover(x, abs(1), 4);
        due("the fifth", x.mount(0, 2, abs(1), AFTER, false), 5);
        due("0 of five", x.seen(0, abs(1), 0), 1);
        due("3 of five", x.seen(0, abs(1), 3), 1);
        due("4 of five", x.seen(0, abs(1), 4), 2);
        due("5 of five", x.seen(0, abs(1), 5), NONE);
        due("below 0", x.seen(0, abs(1), -1), NONE);
        due("the least", x.seen(0, abs(1), LEAST), NONE);
        due("the greatest", x.seen(0, abs(1), GREATEST), NONE);
        due("below 0 of one", x.seen(0, abs(2), -1), NONE);
        due("another beside it", x.mount(0, 2, abs(2), REPLACE, false), 1);
        due("5 is not the other's first", x.seen(0, abs(1), 5), NONE);
        due("-1 is not the other's last", x.seen(0, abs(2), -1), NONE);
        due("evaluation says it first", x.seen(0, abs(9), 9), NOT_FOUND);
        due("no path", x.seen(0, abs(9, 0), 9), REFUSED);
        due("no process", x.seen(4, abs(1), 0), REFUSED);
    }

    // Promise 4

    private static void forkLeastNumber() {
        part = "4: A new process (the least number that is not there)";
        BoundTrees x = new BoundTrees();
        due("1", x.fork(0, COPY, false), 1);
        due("2", x.fork(1, COPY, false), 2);
        due("3", x.fork(2, COPY, false), 3);
        due("exit", x.exit(1), 3);
        due("exit", x.exit(2), 2);
        due("the lesser of two", x.fork(3, COPY, false), 1);
        due("then the other", x.fork(3, COPY, false), 2);
        due("exit", x.exit(0), 3);
        due("0, too", x.fork(3, COPY, false), 0);
    }

    private static void forkDot() {
        part = "4: with p's DOT";
        BoundTrees x = chain();
        due("of 7 nodes", x.fork(0, EMPTY, true), 1);
        due("the names", x.dot(1), abs(1, 1, 1, 1, 1, 1));
        due("the place", x.place(1, HERE), 8);
        due("chdir in the new one", x.chdir(1, from(BACK, BACK)), 6);
        due("is its own", x.dot(0), abs(1, 1, 1, 1, 1, 1));
        due("p's, not that of 0", x.fork(1, EMPTY, true), 2);
        due("p's, not that of 0", x.dot(2), abs(1, 1, 1, 1));
        due("chdir in the old one", x.chdir(1, ROOT), 0);
        due("is its own", x.dot(2), abs(1, 1, 1, 1));
    }

    private static void forkSpaceArgument() {
        part = "4: REFUSED if space is not 0 .. 2";
        BoundTrees x = new BoundTrees();
        for (int space : new int[] {LEAST, -1, 3, GREATEST}) {
            due("space " + space, x.fork(0, space, true), REFUSED);
            due("space " + space, x.fork(0, space, false), REFUSED);
        }
        due("none was made", x.dot(1), REFUSED);
        for (int space = 0; space <= 2; space++) {
            due("space " + space, x.fork(0, space, true), 1 + space);
        }
        due("REFUSED comes before FULL", x.fork(0, 3, true), REFUSED);
        due("no process", x.fork(4, 0, true), REFUSED);
        due("no process", x.fork(-1, 0, true), REFUSED);
    }

    private static void forkFull() {
        part = "4: FULL if there are 4";
        BoundTrees x = new BoundTrees();
        due("two", x.fork(0, OWN, true), 1);
        due("three", x.fork(0, OWN, true), 2);
        due("four", x.fork(0, OWN, true), 3);
        for (int p = 0; p < 4; p++) {
            due("no fifth", x.fork(p, p % 3, p > 1), FULL);
        }
        due("exit", x.exit(3), 3);
        due("four again", x.fork(0, OWN, true), 3);
        due("no fifth", x.fork(0, OWN, true), FULL);
    }

    private static void forkOwnSpace() {
        part = "4: Its space: p's own (0)";
        BoundTrees x = row(2);
        due("fork", x.fork(0, OWN, false), 1);
        due("bound in one", x.bind(0, abs(2), abs(1), BEFORE, true), 2);
        seenIs(x, 1, abs(1), 4, 3);
        due("unmounted in the other", x.unmount(1, abs(2), abs(1)), 1);
        seenIs(x, 0, abs(1), 3);
        due("with one space there are six in all", x.mount(0, 1, ROOT, AFTER, false), 2);
        due("the end of one", x.exit(0), 1);
        seenIs(x, 1, ROOT, 0, 1);
        due("another one", x.fork(1, OWN, false), 0);
        seenIs(x, 0, ROOT, 0, 1);
    }

    /** Six covered, with one to five members: every one has to come over with its CREATE. */
    private static void forkCopiedSpace() {
        part = "4: a copy (1)";
        BoundTrees x = row(7);
        for (int i = 1; i <= 6; i++) {
            cover(x, abs(i), i < 5 ? i : 4);
            due("the last with CREATE", x.bind(0, abs(7), abs(i), i < 5 ? AFTER : BEFORE, true), i < 5 ? i + 1 : 5);
        }
        due("fork", x.fork(0, COPY, true), 1);
        seenIs(x, 1, abs(1), 1, 9);
        seenIs(x, 1, abs(2), 1, 1, 9);
        seenIs(x, 1, abs(3), 1, 1, 1, 9);
        seenIs(x, 1, abs(4), 1, 1, 1, 1, 9);
        seenIs(x, 1, abs(5), 9, 1, 1, 1, 1);
        seenIs(x, 1, abs(6), 9, 1, 1, 1, 1);
        for (int i = 1; i <= 6; i++) {
            due("CREATE came over", x.create(1, abs(i, i), false), 9 + i);
            due("in the one with CREATE", x.about(9 + i, PARENT), 9);
        }
        due("as many as may be", x.mount(1, 1, abs(7), REPLACE, false), FULL);
        due("one less in the copy", x.unmount(1, NONE, abs(6)), 0);
        due("not in p's own", x.seen(0, abs(6), 0), 9);
        due("changed in p's own", x.mount(0, 2, abs(1), BEFORE, false), 3);
        seenIs(x, 1, abs(1), 1, 9);
    }

    private static void forkEmptySpace() {
        part = "4: or one in which nothing is covered (2)";
        BoundTrees x = row(7);
        for (int i = 1; i <= 6; i++) {
            cover(x, abs(i), 5);
        }
        due("fork", x.fork(0, EMPTY, true), 1);
        for (int i = 1; i <= 7; i++) {
            seenIs(x, 1, abs(i), 2 + i);
            due("nothing is covered", x.unmount(1, NONE, abs(i)), NOT_BOUND);
        }
        due("room for six", x.mount(1, 2, abs(7), REPLACE, false), 1);
        seenIs(x, 0, abs(7), 9);
        seenIs(x, 0, abs(6), 1, 1, 1, 1, 1);
    }

    /** The numbers of those that ended are used again, in whatever order; nothing of theirs may be left. */
    private static void forkAfterExits() {
        part = "4: Its space, after others have ended";
        BoundTrees x = row(2);
        due("1", x.fork(0, EMPTY, false), 1);
        due("2", x.fork(0, EMPTY, false), 2);
        due("3", x.fork(0, EMPTY, false), 3);
        for (int p = 0; p < 4; p++) {
            due("each its own", x.mount(p, 1 + p % 2, abs(1), AFTER, true), 2);
            due("each its own", x.open(p, abs(1 + p % 2)), 0);
        }
        due("exit", x.exit(2), 3);
        due("exit", x.exit(0), 2);
        due("0 from 3", x.fork(3, COPY, false), 0);
        due("2 from 1", x.fork(1, EMPTY, false), 2);
        seenIs(x, 0, abs(1), 3, 2);
        seenIs(x, 1, abs(1), 3, 2);
        seenIs(x, 2, abs(1), 3);
        seenIs(x, 3, abs(1), 3, 2);
        due("in 0 alone", x.mount(0, 1, abs(1), REPLACE, true), 1);
        due("in 2 alone", x.mount(2, 0, abs(1), REPLACE, true), 1);
        due("in 0 alone", x.close(0, 0), true);
        due("in 2 alone", x.open(2, abs(2)), 1);
        seenIs(x, 1, abs(1), 3, 2);
        seenIs(x, 3, abs(1), 3, 2);
        seenIs(x, 0, abs(1), 1);
        seenIs(x, 2, abs(1), 0);
        readIs(x, 0, 0, CLOSED);
        readIs(x, 1, 0, END);
        readIs(x, 1, 1, CLOSED);
        readIs(x, 2, 1, END);
        readIs(x, 3, 0, END);
    }

    private static void forkEmptyAfterExits() {
        part = "4: or one in which nothing is covered (2), after others have ended";
        BoundTrees x = row(6);
        for (int i = 1; i <= 6; i++) {
            cover(x, abs(i), 2);
        }
        for (int p = 1; p <= 3; p++) {
            due("a copy", x.fork(0, COPY, false), p);
        }
        for (int p = 1; p <= 3; p++) {
            due("exit", x.exit(p), 4 - p);
        }
        for (int p = 1; p <= 3; p++) {
            due("fork", x.fork(0, EMPTY, false), p);
            due("its own", x.mount(p, 2, abs(1), REPLACE, false), 1);
        }
        for (int p = 1; p <= 3; p++) {
            seenIs(x, p, abs(1), 2);
            for (int i = 2; i <= 6; i++) {
                seenIs(x, p, abs(i), 2 + i);
            }
        }
        for (int i = 1; i <= 6; i++) {
            seenIs(x, 0, abs(i), 1, 1);
        }
    }

    private static void forkSharedDescriptors() {
        part = "4: the same as p's (what one opens, closes, reads or writes through them the other one has done, too) if shared";
        BoundTrees x = fileOf(3);
        due("fork", x.fork(0, EMPTY, true), 1);
        due("sought by one", x.seek(1, 0, 0), true);
        due("read by the other", x.read(0, 0), 10);
        due("read by one", x.read(1, 0), 20);
        due("written by the other", x.write(0, 0, 33), 3);
        due("written by one", x.write(1, 0, 44), 4);
        due("opened by one", x.open(1, ROOT), 1);
        due("read by the other", x.read(0, 1), 3);
        due("opened by the other", x.open(0, ROOT), 2);
        due("opened by one", x.open(1, ROOT), 3);
        due("all are open, for both", x.open(0, ROOT), FULL);
        due("closed by one", x.close(1, 2), true);
        due("it is closed", x.close(0, 2), false);
        due("the end of p", x.exit(0), 1);
        due("they stay", x.seek(1, 0, 2), true);
        readIs(x, 1, 0, 33, 44, END);
    }

    /** Four open ones of different kinds and positions: each has to come over as it stands. */
    private static void forkCopiedDescriptors() {
        part = "4: else a copy of them";
        BoundTrees x = fileOf(3);
        due("make", x.create(0, abs(2), true), 4);
        due("make", x.create(0, abs(2, 1), true), 5);
        due("union", x.bind(0, ROOT, abs(2), AFTER, false), 2);
        due("open the union", x.open(0, abs(2)), 1);
        readIs(x, 0, 1, 5, 3);
        due("open the file again", x.open(0, abs(1)), 2);
        readIs(x, 0, 2, 10, 20);
        due("open the root", x.open(0, ROOT), 3);
        readIs(x, 0, 3, 3);
        due("fork", x.fork(0, EMPTY, false), 1);
        readIs(x, 0, 0, END);
        readIs(x, 0, 1, 4, END);
        readIs(x, 0, 2, 30, END);
        readIs(x, 0, 3, 4, END);
        due("p's", x.close(0, 0), true);
        due("p's", x.seek(0, 2, 0), true);
        readIs(x, 1, 0, END);
        readIs(x, 1, 1, 4, END);
        readIs(x, 1, 2, 30, END);
        readIs(x, 1, 3, 4, END);
        due("its own", x.close(1, 3), true);
        due("p's is open", x.seek(0, 3, 0), true);
        due("its own", x.open(1, ROOT), 3);
        due("all of its own are open", x.open(1, ROOT), FULL);
        due("p has one closed", x.open(0, ROOT), 0);
    }

    // Promise 5

    private static void exitHowManyAreLeft() {
        part = "5: Process p is there no more: how many are left. REFUSED if it is the only one";
        BoundTrees x = new BoundTrees();
        due("the only one", x.exit(0), REFUSED);
        due("it is there still", x.dot(0), ROOT);
        for (int p = 1; p <= 3; p++) {
            due("fork", x.fork(0, COPY, false), p);
        }
        due("three left", x.exit(3), 3);
        due("not there", x.exit(3), REFUSED);
        due("not there", x.dot(3), REFUSED);
        due("two left", x.exit(0), 2);
        due("not there", x.dot(0), REFUSED);
        due("one left", x.exit(1), 1);
        due("the only one", x.exit(2), REFUSED);
        due("it is there still", x.dot(2), ROOT);
        for (int p : new int[] {LEAST, -1, 4, GREATEST}) {
            due("no process " + p, x.exit(p), REFUSED);
        }
    }

    private static void exitEndsAllOfIt() {
        part = "5: Process p is there no more, for any call";
        BoundTrees x = twoAndTwo();
        due("fork", x.fork(0, OWN, true), 1);
        due("open", x.open(1, abs(8)), 0);
        due("exit", x.exit(1), 1);
        due("place", x.place(1, ROOT), REFUSED);
        due("seen", x.seen(1, ROOT, 0), REFUSED);
        due("fork", x.fork(1, COPY, true), REFUSED);
        due("exit", x.exit(1), REFUSED);
        due("chdir", x.chdir(1, ROOT), REFUSED);
        due("dot", x.dot(1), REFUSED);
        due("bind", x.bind(1, abs(1), abs(2), REPLACE, true), REFUSED);
        due("mount", x.mount(1, 1, abs(2), REPLACE, true), REFUSED);
        due("unmount", x.unmount(1, NONE, abs(2)), REFUSED);
        due("create", x.create(1, abs(3), true), REFUSED);
        due("remove", x.remove(1, abs(9)), REFUSED);
        due("open", x.open(1, abs(8)), REFUSED);
        due("read", x.read(1, 0), CLOSED);
        due("write", x.write(1, 0, 1), REFUSED);
        due("seek", x.seek(1, 0, 0), false);
        due("close", x.close(1, 0), false);
        due("the other's descriptor is open", x.write(0, 0, 1), 1);
    }

    // Promises 6 and 7

    private static void chdirToAFile() {
        part = "6: NOT_DIRECTORY if that is a file";
        BoundTrees x = twoAndTwo();
        due("a directory", x.chdir(0, abs(1)), 3);
        due("a file", x.chdir(0, abs(8)), NOT_DIRECTORY);
        due("DOT is as before", x.dot(0), abs(1));
        due("below a file", x.chdir(0, abs(8, 1)), NOT_DIRECTORY);
        due("back from a file", x.chdir(0, abs(8, BACK)), 0);
        due("none", x.chdir(0, abs(3)), NOT_FOUND);
        due("a covered file", x.bind(0, abs(8), abs(9), REPLACE, false), 1);
        due("a covered file", x.chdir(0, abs(9)), NOT_DIRECTORY);
        due("no path", x.chdir(0, 11), REFUSED);
        due("no process", x.chdir(1, ROOT), REFUSED);
        due("DOT is the root", x.dot(0), ROOT);
    }

    private static void chdirTrail() {
        part = "6: DOT becomes the path's trail: its place";
        BoundTrees x = chain();
        due("up", x.chdir(0, ROOT), 0);
        due("seven nodes", x.chdir(0, from(1, 1, 1, 1, 1, 1)), 8);
        due("their names", x.dot(0), abs(1, 1, 1, 1, 1, 1));
        due("each of them", x.chdir(0, BACK), 7);
        due("their names", x.dot(0), abs(1, 1, 1, 1, 1));
        due("with back in it", x.chdir(0, from(BACK, BACK, 1, BACK)), 5);
        due("their names", x.dot(0), abs(1, 1, 1));
        due("a union", x.mount(0, 0, HERE, REPLACE, false), 1);
        due("the place, not what is SEEN", x.chdir(0, HERE), 5);
        due("the names by which they were found", x.chdir(0, from(1, 1, 1)), 5);
        due("the names by which they were found", x.dot(0), abs(1, 1, 1, 1, 1, 1));
        due("a trail of 7", x.chdir(0, from(1)), TOO_DEEP);
    }

    private static void dotOfNoneToSixNames() {
        part = "7: DOT as the path from the root by the names in it. REFUSED";
        BoundTrees x = new BoundTrees();
        due("no name", x.dot(0), -1);
        int row = 0;
        for (int i = 0; i < 6; i++) {
            due("make", x.create(0, from(9), true), 3 + i);
            due("down", x.chdir(0, from(9)), 3 + i);
            row = row * 11 + 9;
            due("the names", x.dot(0), -1 - row);
            due("it is a path to DOT", x.place(0, -1 - row), 3 + i);
        }
        due("six names 9", x.dot(0), -1594405);
        for (int p : new int[] {LEAST, -1, 1, 4, GREATEST}) {
            due("no process " + p, x.dot(p), REFUSED);
        }
    }

    private static void dotByTheNamesInIt() {
        part = "7: by the names in it, which are those by which the nodes were found";
        BoundTrees x = row(3);
        due("make", x.create(0, abs(2, 7), true), 6);
        due("bind", x.bind(0, abs(2), abs(1), AFTER, true), 2);
        due("chdir", x.chdir(0, abs(1, 7)), 6);
        due("not by its parents", x.dot(0), abs(1, 7));
        due("remove", x.remove(0, HERE), 6);
        due("GONE in DOT", x.dot(0), abs(1, 7));
        due("the name again", x.create(0, abs(2, 7), true), 7);
        due("GONE in DOT", x.dot(0), abs(1, 7));
        due("GONE in DOT", x.place(0, HERE), NOT_FOUND);
    }

    // Promise 8

    private static void bindOrders() {
        part = "8: its list becomes that (order 0), that and then the list it had (1), or the list it had and then that (2)";
        BoundTrees x = row(7);
        due("two to come", x.bind(0, abs(2), abs(1), BEFORE, false), 2);
        seenIs(x, 0, abs(1), 4, 3);
        due("0 on one not covered", x.bind(0, abs(1), abs(3), REPLACE, false), 2);
        seenIs(x, 0, abs(3), 4, 3);
        due("1 on one not covered", x.bind(0, abs(1), abs(4), BEFORE, false), 3);
        seenIs(x, 0, abs(4), 4, 3, 6);
        due("2 on one not covered", x.bind(0, abs(1), abs(5), AFTER, false), 3);
        seenIs(x, 0, abs(5), 7, 4, 3);
        due("1 on one covered", x.bind(0, abs(1), abs(4), BEFORE, false), 5);
        seenIs(x, 0, abs(4), 4, 3, 4, 3, 6);
        due("2 on one covered", x.bind(0, abs(1), abs(5), AFTER, false), 5);
        seenIs(x, 0, abs(5), 7, 4, 3, 4, 3);
        due("0 on one covered", x.bind(0, abs(1), abs(5), REPLACE, false), 2);
        seenIs(x, 0, abs(5), 4, 3);
        due("what was bound is as before", x.seen(0, abs(1), 2), NONE);
    }

    private static void bindOnItself() {
        part = "8: its list becomes that, over the place of fresh itself";
        BoundTrees x = row(3);
        due("1 on itself", x.bind(0, abs(1), abs(1), BEFORE, false), 2);
        seenIs(x, 0, abs(1), 3, 3);
        due("more", x.bind(0, abs(2), abs(3), BEFORE, false), 2);
        due("1 on itself, covered", x.bind(0, abs(3), abs(3), BEFORE, false), 4);
        seenIs(x, 0, abs(3), 4, 5, 4, 5);
        due("0 on itself, covered", x.bind(0, abs(3), abs(3), REPLACE, true), 4);
        seenIs(x, 0, abs(3), 4, 5, 4, 5);
        due("2 on itself would be eight", x.bind(0, abs(3), abs(3), AFTER, true), FULL);
        due("one less", x.unmount(0, abs(2), abs(3)), 3);
        due("2 on itself would be six", x.bind(0, abs(3), abs(3), AFTER, true), FULL);
        due("one less", x.unmount(0, abs(2), abs(3)), 2);
        due("2 on itself is four", x.bind(0, abs(3), abs(3), AFTER, true), 4);
        seenIs(x, 0, abs(3), 5, 5, 5, 5);
    }

    private static void bindListOfOneNotCovered() {
        part = "8: the list that a place not covered had is itself, without CREATE";
        BoundTrees x = row(3);
        due("before", x.bind(0, abs(2), abs(1), BEFORE, false), 2);
        seenIs(x, 0, abs(1), 4, 3);
        due("none is with CREATE", x.create(0, abs(1, 1), true), NO_CREATE);
        due("behind, with CREATE", x.bind(0, abs(2), abs(3), AFTER, true), 2);
        seenIs(x, 0, abs(3), 5, 4);
        due("not in itself", x.create(0, abs(3, 1), true), 6);
        due("but in what came", x.about(6, PARENT), 4);
        due("covered once, with CREATE before", x.mount(0, 1, ROOT, BEFORE, true), 2);
        due("not in itself", x.create(0, abs(9), true), 7);
        due("but in what came", x.about(7, PARENT), 1);
    }

    private static void bindCreate() {
        part = "8: Those that come are with CREATE exactly if create is true";
        BoundTrees x = row(5);
        due("with", x.bind(0, abs(2), abs(1), REPLACE, true), 1);
        due("from one with, without", x.bind(0, abs(1), abs(3), REPLACE, false), 1);
        due("none", x.create(0, abs(3, 1), true), NO_CREATE);
        due("from one without, with", x.bind(0, abs(3), abs(4), REPLACE, true), 1);
        due("in it", x.create(0, abs(4, 1), true), 8);
        due("parent", x.about(8, PARENT), 4);
        due("without, before one with", x.bind(0, abs(5), abs(1), BEFORE, false), 2);
        due("the list it had keeps its own", x.create(0, abs(1, 2), true), 9);
        due("parent", x.about(9, PARENT), 4);
        due("with, behind ones without", x.bind(0, abs(1), abs(3), AFTER, true), 3);
        seenIs(x, 0, abs(3), 4, 7, 4);
        due("all that come are with it", x.create(0, abs(3, 3), true), 10);
        due("so the first of them", x.about(10, PARENT), 7);
        due("anew without", x.bind(0, abs(2), abs(1), REPLACE, false), 1);
        due("none", x.create(0, abs(1, 9), true), NO_CREATE);
    }

    private static void bindOrderArgument() {
        part = "8: REFUSED if order is not 0 .. 2";
        BoundTrees x = twoAndTwo();
        for (int order : new int[] {LEAST, -1, 3, GREATEST}) {
            due("order " + order, x.bind(0, abs(1), abs(2), order, true), REFUSED);
            due("files, order " + order, x.bind(0, abs(8), abs(9), order, true), REFUSED);
            due("not found, order " + order, x.bind(0, abs(7), abs(2), order, true), REFUSED);
            due("kinds, order " + order, x.bind(0, abs(8), abs(2), order, true), REFUSED);
        }
        seenIs(x, 0, abs(2), 4);
        for (int order = 0; order <= 2; order++) {
            due("order " + order, x.bind(0, abs(1), abs(2), order, true), order + 1);
        }
        seenIs(x, 0, abs(2), 3, 3, 3);
    }

    private static void bindFreshFirst() {
        part = "8: (fresh is evaluated first)";
        BoundTrees x = twoAndTwo();
        due("fresh NOT_FOUND, old NOT_DIRECTORY", x.bind(0, abs(7), abs(8, 1), REPLACE, true), NOT_FOUND);
        due("fresh NOT_DIRECTORY, old NOT_FOUND", x.bind(0, abs(8, 1), abs(7), REPLACE, true), NOT_DIRECTORY);
        due("old NOT_DIRECTORY", x.bind(0, abs(1), abs(8, 1), REPLACE, true), NOT_DIRECTORY);
        due("old NOT_FOUND", x.bind(0, abs(1), abs(7), REPLACE, true), NOT_FOUND);
        due("no path comes before: old", x.bind(0, abs(7), 11, REPLACE, true), REFUSED);
        due("no path comes before: fresh", x.bind(0, 11, abs(7), REPLACE, true), REFUSED);
        due("evaluation before KIND", x.bind(0, abs(8), abs(7), AFTER, true), NOT_FOUND);
        due("NONE is no path here", x.bind(0, NONE, abs(1), REPLACE, true), REFUSED);
        due("no process", x.bind(1, abs(1), abs(2), REPLACE, true), REFUSED);
    }

    private static void bindKind() {
        part = "8: KIND if only one of the two places is a directory, or they are files and order is not 0";
        BoundTrees x = twoAndTwo();
        for (int order = 0; order <= 2; order++) {
            due("a file over a directory", x.bind(0, abs(8), abs(1), order, true), KIND);
            due("a directory over a file", x.bind(0, abs(1), abs(8), order, true), KIND);
            due("a file over a file", x.bind(0, abs(8), abs(9), order, true), order == 0 ? 1 : KIND);
            due("a directory over a directory", x.bind(0, abs(1), abs(2), order, true), order + 1);
        }
        seenIs(x, 0, abs(9), 5);
        seenIs(x, 0, abs(1), 3);
        seenIs(x, 0, abs(8), 5);
        due("a covered file", x.bind(0, abs(9), abs(8), AFTER, true), KIND);
        due("a covered file over itself", x.bind(0, abs(9), abs(9), BEFORE, true), KIND);
        due("a covered file over itself", x.bind(0, abs(9), abs(9), REPLACE, true), 1);
        due("what is SEEN at a covered file", x.bind(0, abs(9), abs(8), REPLACE, true), 1);
        seenIs(x, 0, abs(8), 5);
    }

    private static void bindMoreThan5() {
        part = "8: FULL if that would be more than 5 members";
        BoundTrees x = row(6);
        cover(x, abs(1), 4);
        cover(x, abs(2), 5);
        cover(x, abs(3), 2);
        cover(x, abs(4), 3);
        for (int order = 1; order <= 2; order++) {
            due("1 and 5", x.bind(0, abs(2), abs(5), order, false), FULL);
            due("5 and 1", x.bind(0, abs(6), abs(2), order, false), FULL);
            due("4 and 2", x.bind(0, abs(3), abs(1), order, false), FULL);
            due("3 and 3", x.bind(0, abs(4), abs(4), order, false), FULL);
        }
        seenIs(x, 0, abs(5), 7);
        seenIs(x, 0, abs(2), 1, 1, 1, 1, 1);
        seenIs(x, 0, abs(1), 1, 1, 1, 1);
        seenIs(x, 0, abs(4), 1, 1, 1);
        due("0 with five", x.bind(0, abs(2), abs(4), REPLACE, false), 5);
        due("1 and 4", x.bind(0, abs(1), abs(5), BEFORE, false), 5);
        seenIs(x, 0, abs(5), 1, 1, 1, 1, 7);
        due("4 and 1", x.bind(0, abs(6), abs(1), AFTER, false), 5);
        seenIs(x, 0, abs(1), 1, 1, 1, 1, 8);
    }

    private static void bindThreeAndTwo() {
        part = "8: 5 members are not more than 5";
        BoundTrees x = row(4);
        cover(x, abs(1), 3);
        due("2 to come", x.bind(0, abs(3), abs(2), AFTER, false), 2);
        due("3 and 2", x.bind(0, abs(2), abs(1), AFTER, false), 5);
        seenIs(x, 0, abs(1), 1, 1, 1, 4, 5);
        due("2 and 5", x.bind(0, abs(1), abs(2), BEFORE, false), FULL);
        due("two less", x.unmount(0, abs(2), abs(1)), 4);
        due("two less", x.unmount(0, abs(3), abs(1)), 3);
        due("2 and 3", x.bind(0, abs(2), abs(1), BEFORE, false), 5);
        seenIs(x, 0, abs(1), 4, 5, 1, 1, 1);
    }

    private static void bindSeventhCovered() {
        part = "8: or a seventh node covered";
        BoundTrees x = row(8);
        due("a file", x.create(0, abs(9), false), 11);
        due("a file", x.create(0, abs(7, 1), false), 12);
        for (int i = 1; i <= 5; i++) {
            cover(x, abs(i), 1);
        }
        due("a file is the sixth", x.bind(0, abs(7, 1), abs(9), REPLACE, false), 1);
        for (int order = 0; order <= 2; order++) {
            due("no seventh", x.bind(0, abs(8), abs(7), order, true), FULL);
            due("no seventh", x.bind(0, abs(7), abs(7), order, true), FULL);
        }
        due("no seventh, a file", x.bind(0, abs(9), abs(7, 1), REPLACE, true), FULL);
        seenIs(x, 0, abs(7), 9);
        due("KIND comes before", x.bind(0, abs(9), abs(7), REPLACE, true), KIND);
        due("one that is covered", x.bind(0, abs(7), abs(1), AFTER, true), 2);
        due("the last member of one goes", x.unmount(0, NONE, abs(9)), 0);
        due("the sixth", x.bind(0, abs(8), abs(7), AFTER, true), 2);
        due("no seventh", x.bind(0, abs(7, 1), abs(9), REPLACE, true), FULL);
    }

    // Promise 9

    private static void mountTree() {
        part = "9: the root of a tree 0 .. 2";
        BoundTrees x = row(1);
        for (int tree : new int[] {LEAST, -1, 3, 47, GREATEST}) {
            due("tree " + tree, x.mount(0, tree, abs(1), REPLACE, true), REFUSED);
            due("tree " + tree, x.mount(0, tree, abs(9), REPLACE, true), REFUSED);
        }
        seenIs(x, 0, abs(1), 3);
        for (int tree = 0; tree <= 2; tree++) {
            due("tree " + tree, x.mount(0, tree, abs(1), REPLACE, true), 1);
            seenIs(x, 0, abs(1), tree);
        }
    }

    private static void mountItself() {
        part = "9: (itself, whatever is SEEN there)";
        BoundTrees x = row(2);
        due("over the root", x.mount(0, 1, ROOT, REPLACE, true), 1);
        due("made in 1", x.create(0, abs(5), true), 5);
        due("parent", x.about(5, PARENT), 1);
        due("0 itself, not 1", x.mount(0, 0, abs(5), REPLACE, true), 1);
        seenIs(x, 0, abs(5), 0);
        due("so its own children", x.place(0, abs(5, 1)), 3);
        due("bind has what is SEEN", x.bind(0, ROOT, abs(5), AFTER, true), 2);
        seenIs(x, 0, abs(5), 0, 1);
    }

    private static void mountTheSame() {
        part = "9: The same";
        BoundTrees x = twoAndTwo();
        for (int order : new int[] {LEAST, -1, 3, GREATEST}) {
            due("order " + order, x.mount(0, 1, abs(1), order, true), REFUSED);
            due("order " + order, x.mount(0, 1, abs(7), order, true), REFUSED);
        }
        for (int order = 0; order <= 2; order++) {
            due("over a file", x.mount(0, 1, abs(8), order, true), KIND);
            due("not there", x.mount(0, 1, abs(7), order, true), NOT_FOUND);
            due("below a file", x.mount(0, 1, abs(8, 1), order, true), NOT_DIRECTORY);
        }
        due("no path", x.mount(0, 1, 11, REPLACE, true), REFUSED);
        due("NONE is no path here", x.mount(0, 1, NONE, REPLACE, true), REFUSED);
        due("no process", x.mount(1, 1, abs(1), REPLACE, true), REFUSED);
        due("before", x.mount(0, 1, abs(1), BEFORE, false), 2);
        seenIs(x, 0, abs(1), 1, 3);
        due("behind", x.mount(0, 2, abs(1), AFTER, true), 3);
        seenIs(x, 0, abs(1), 1, 3, 2);
        due("with CREATE exactly if create is true", x.create(0, abs(1, 1), true), 7);
        due("parent", x.about(7, PARENT), 2);
        due("without", x.mount(0, 2, abs(1), REPLACE, false), 1);
        due("none", x.create(0, abs(1, 2), true), NO_CREATE);
    }

    private static void mountFull() {
        part = "9: The same: FULL";
        BoundTrees x = row(7);
        cover(x, abs(1), 4);
        due("five", x.mount(0, 2, abs(1), BEFORE, true), 5);
        due("no sixth before", x.mount(0, 2, abs(1), BEFORE, true), FULL);
        due("no sixth behind", x.mount(0, 2, abs(1), AFTER, true), FULL);
        seenIs(x, 0, abs(1), 2, 1, 1, 1, 1);
        for (int i = 2; i <= 6; i++) {
            cover(x, abs(i), 1);
        }
        for (int order = 0; order <= 2; order++) {
            due("no seventh covered", x.mount(0, 2, abs(7), order, true), FULL);
        }
        due("replaced", x.mount(0, 0, abs(1), REPLACE, true), 1);
        seenIs(x, 0, abs(1), 0);
        seenIs(x, 0, abs(7), 9);
    }

    // Promise 10

    private static void unmountFirst() {
        part = "10: The first member that is the place of fresh is taken out of the list of the place of old";
        BoundTrees x = row(4);
        due("members", x.bind(0, abs(2), abs(1), AFTER, true), 2);
        due("members", x.bind(0, abs(3), abs(1), AFTER, false), 3);
        due("members", x.bind(0, abs(2), abs(1), AFTER, false), 4);
        due("members", x.bind(0, abs(4), abs(1), AFTER, true), 5);
        seenIs(x, 0, abs(1), 3, 4, 5, 4, 6);
        due("the first of two", x.unmount(0, abs(2), abs(1)), 4);
        seenIs(x, 0, abs(1), 3, 5, 4, 6);
        due("its CREATE went, and each other one has its own", x.create(0, abs(1, 9), true), 7);
        due("parent", x.about(7, PARENT), 6);
        due("the last in the row", x.unmount(0, abs(4), abs(1)), 3);
        seenIs(x, 0, abs(1), 3, 5, 4);
        due("none with CREATE is left", x.create(0, abs(1, 8), true), NO_CREATE);
        due("the first in the row", x.unmount(0, abs(1), abs(1)), 2);
        seenIs(x, 0, abs(1), 5, 4);
    }

    private static void unmountAll() {
        part = "10: with fresh = NONE all of them";
        BoundTrees x = row(2);
        cover(x, abs(1), 5);
        cover(x, abs(2), 2);
        due("all five", x.unmount(0, NONE, abs(1)), 0);
        seenIs(x, 0, abs(1), 3);
        seenIs(x, 0, abs(2), 1, 1);
        due("all of none", x.unmount(0, NONE, abs(1)), NOT_BOUND);
        due("one below NONE is no path", x.unmount(0, NONE - 1, abs(2)), REFUSED);
        due("one above NONE is no path", x.unmount(0, NONE + 1, abs(2)), REFUSED);
        seenIs(x, 0, abs(2), 1, 1);
    }

    private static void unmountHowManyAreLeft() {
        part = "10: How many are left; with none left it is covered no more";
        BoundTrees x = row(1);
        due("members", x.mount(0, 0, abs(1), REPLACE, false), 1);
        for (int i = 2; i <= 5; i++) {
            due("members", x.mount(0, 0, abs(1), AFTER, false), i);
        }
        for (int left = 4; left >= 0; left--) {
            due("left", x.unmount(0, ROOT, abs(1)), left);
        }
        due("covered no more", x.unmount(0, ROOT, abs(1)), NOT_BOUND);
        seenIs(x, 0, abs(1), 3);
        due("so it is made in itself", x.create(0, abs(1, 1), true), 4);
        due("parent", x.about(4, PARENT), 3);
        due("so it is not held", x.remove(0, abs(1, 1)), 4);
        due("remove", x.remove(0, abs(1)), 3);
        due("free", x.state(3), FREE);
    }

    private static void unmountNotBound() {
        part = "10: NOT_BOUND if it is not covered, or there is no such member";
        BoundTrees x = twoAndTwo();
        due("not covered", x.unmount(0, abs(1), abs(1)), NOT_BOUND);
        due("not covered, all", x.unmount(0, NONE, abs(1)), NOT_BOUND);
        due("a file not covered", x.unmount(0, abs(8), abs(8)), NOT_BOUND);
        due("a file not covered", x.unmount(0, NONE, abs(8)), NOT_BOUND);
        due("cover", x.mount(0, 1, abs(1), REPLACE, false), 1);
        due("no such member", x.unmount(0, abs(2), abs(1)), NOT_BOUND);
        due("itself is no member", x.unmount(0, abs(1), abs(1)), NOT_BOUND);
        due("a file is no member", x.unmount(0, abs(8), abs(1)), NOT_BOUND);
        seenIs(x, 0, abs(1), 1);
        due("one more", x.bind(0, abs(2), abs(1), AFTER, false), 2);
        due("the member", x.unmount(0, abs(2), abs(1)), 1);
        due("it is no member any more", x.unmount(0, abs(2), abs(1)), NOT_BOUND);
        seenIs(x, 0, abs(1), 1);
        due("a file over a file", x.bind(0, abs(8), abs(9), REPLACE, false), 1);
        due("no such member", x.unmount(0, abs(9), abs(9)), NOT_BOUND);
        due("the member", x.unmount(0, abs(8), abs(9)), 0);
        due("another space", x.fork(0, EMPTY, true), 1);
        due("not covered there", x.unmount(1, NONE, abs(1)), NOT_BOUND);
        seenIs(x, 0, abs(1), 1);
    }

    private static void unmountPlaceOfFresh() {
        part = "10: the place of fresh, not what is SEEN there";
        BoundTrees x = row(3);
        due("cover", x.bind(0, abs(1), abs(2), REPLACE, false), 1);
        due("what is SEEN comes", x.bind(0, abs(2), abs(3), REPLACE, false), 1);
        due("the place is no member", x.unmount(0, abs(2), abs(3)), NOT_BOUND);
        due("what is SEEN there is", x.unmount(0, abs(1), abs(3)), 0);
        due("cover", x.bind(0, abs(3), abs(1), AFTER, false), 2);
        due("covered itself, it is a member still", x.unmount(0, abs(1), abs(1)), 1);
        seenIs(x, 0, abs(1), 5);
    }

    // Promise 11

    private static void createLeastFree() {
        part = "11: its number, the least that is free";
        BoundTrees x = row(5);
        due("remove", x.remove(0, abs(4)), 6);
        due("remove", x.remove(0, abs(2)), 4);
        due("the least of them", x.create(0, abs(6), true), 4);
        due("then the other", x.create(0, abs(7), false), 6);
        due("then behind all", x.create(0, abs(8), true), 8);
        due("hold", x.open(0, abs(1)), 0);
        due("remove", x.remove(0, abs(1)), 3);
        due("GONE is not free", x.create(0, abs(9), true), 9);
    }

    private static void createNoName() {
        part = "11: REFUSED if the last element of the path is no name";
        BoundTrees x = row(1);
        due("no element, from the root", x.create(0, ROOT, true), REFUSED);
        due("no element, from DOT", x.create(0, HERE, true), REFUSED);
        due("back", x.create(0, abs(BACK), true), REFUSED);
        due("back, from DOT", x.create(0, BACK, true), REFUSED);
        due("a name and back", x.create(0, abs(1, BACK), false), REFUSED);
        due("back before evaluation", x.create(0, abs(9, BACK), false), REFUSED);
        due("back and a name", x.create(0, abs(BACK, 2), false), 4);
        due("0", x.create(0, abs(1, 0), false), REFUSED);
        due("seven elements", x.create(0, abs(1, BACK, 1, BACK, 1, BACK, 3), true), REFUSED);
        due("six elements", x.create(0, abs(1, BACK, 1, BACK, 1, 3), true), 5);
        due("no process", x.create(1, abs(3), true), REFUSED);
        due("what was made", x.about(0, CHILDREN), 2);
    }

    private static void createOthersEvaluated() {
        part = "11: the others are evaluated; NOT_DIRECTORY";
        BoundTrees x = twoAndTwo();
        due("none is there", x.create(0, abs(7, 1), true), NOT_FOUND);
        due("none is there, deeper", x.create(0, abs(1, 1, 1), true), NOT_FOUND);
        due("a file in between", x.create(0, abs(8, 1, 1), true), NOT_DIRECTORY);
        due("a file at last", x.create(0, abs(8, 1), true), NOT_DIRECTORY);
        due("a covered file at last", x.bind(0, abs(8), abs(9), REPLACE, true), 1);
        due("a covered file at last", x.create(0, abs(9, 1), true), NOT_DIRECTORY);
        due("a directory at last", x.create(0, abs(1, 1), true), 7);
        due("none but the name", x.create(0, abs(7), true), 8);
        due("none but the name, from DOT", x.create(0, from(6), true), 9);
    }

    private static void createTooDeep() {
        part = "11: the others are evaluated: a trail of 7 is not too deep for them";
        BoundTrees x = chain();
        due("the others are a trail of 7", x.create(0, from(3), true), 9);
        due("the others are too deep", x.create(0, from(3, 1), true), TOO_DEEP);
        due("not found before too deep", x.create(0, from(4, 1), true), NOT_FOUND);
        due("EXISTS", x.create(0, from(3), true), EXISTS);
        due("six of them", x.create(0, from(BACK, 3), true), 10);
    }

    private static void createGonePlace() {
        part = "11: the others are evaluated: NOT_FOUND if their place is GONE";
        BoundTrees x = row(2);
        due("chdir", x.chdir(0, abs(1)), 3);
        due("before", x.create(0, from(1), true), 5);
        due("remove", x.remove(0, from(1)), 5);
        due("DOT is GONE", x.remove(0, HERE), 3);
        due("in it", x.create(0, from(1), true), NOT_FOUND);
        due("beside it", x.create(0, from(BACK, 1), true), 5);
        due("DOT is the GONE one", x.create(0, from(1), true), NOT_FOUND);
    }

    private static void createExists() {
        part = "11: EXISTS if the name would be found there";
        BoundTrees x = row(4);
        due("make", x.create(0, abs(2, 1), false), 7);
        due("not in 1", x.create(0, abs(1, 1), false), 8);
        due("in 1", x.create(0, abs(1, 1), true), EXISTS);
        due("union", x.bind(0, abs(2), abs(3), AFTER, true), 2);
        due("in the second", x.create(0, abs(3, 1), true), EXISTS);
        due("in none", x.create(0, abs(3, 2), true), 9);
        due("in one that can't be made in", x.bind(0, abs(3), abs(4), REPLACE, false), 2);
        due("EXISTS before NO_CREATE", x.create(0, abs(4, 1), true), EXISTS);
        due("NO_CREATE", x.create(0, abs(4, 3), true), NO_CREATE);
        due("hidden", x.mount(0, 1, abs(1), REPLACE, true), 1);
        due("a name that is hidden is not found", x.create(0, abs(1, 1), true), 10);
        due("parent", x.about(10, PARENT), 1);
    }

    private static void createLastChild() {
        part = "11: it becomes the last child";
        BoundTrees x = row(3);
        due("remove", x.remove(0, abs(1)), 3);
        due("with a lesser number", x.create(0, abs(9), false), 3);
        due("open", x.open(0, ROOT), 0);
        readIs(x, 0, 0, 4, 5, 3, END);
        due("remove", x.remove(0, abs(2)), 4);
        due("with a lesser number", x.create(0, abs(2), false), 4);
        due("anew", x.seek(0, 0, 0), true);
        readIs(x, 0, 0, 5, 3, 4, END);
    }

    private static void createInTheFirstWithCreate() {
        part = "11: of the first one SEEN there that is with CREATE (NO_CREATE if there is none), or of the place if it is not covered";
        BoundTrees x = row(5);
        due("not covered", x.create(0, abs(5, 1), true), 8);
        due("of the place", x.about(8, PARENT), 7);
        due("covered", x.bind(0, abs(1), abs(5), BEFORE, false), 2);
        due("of none", x.create(0, abs(5, 2), true), NO_CREATE);
        due("the third has it", x.bind(0, abs(2), abs(5), AFTER, true), 3);
        due("the fourth has it", x.bind(0, abs(3), abs(5), AFTER, true), 4);
        due("make", x.create(0, abs(5, 2), true), 9);
        due("of the third", x.about(9, PARENT), 4);
        due("the fifth has it", x.bind(0, abs(4), abs(5), AFTER, true), 5);
        due("the third goes", x.unmount(0, abs(2), abs(5)), 4);
        due("the fourth goes", x.unmount(0, abs(3), abs(5)), 3);
        due("make", x.create(0, abs(5, 3), true), 10);
        due("of the last", x.about(10, PARENT), 6);
        due("the last goes", x.unmount(0, abs(4), abs(5)), 2);
        due("of none", x.create(0, abs(5, 4), true), NO_CREATE);
        due("covered no more", x.unmount(0, NONE, abs(5)), 0);
        due("make", x.create(0, abs(5, 4), true), 11);
        due("of the place", x.about(11, PARENT), 7);
    }

    private static void createInAGoneOne() {
        part = "11: NOT_FOUND if that is GONE";
        BoundTrees x = row(3);
        due("first, with CREATE", x.bind(0, abs(1), abs(3), BEFORE, true), 2);
        due("last, with CREATE", x.bind(0, abs(2), abs(3), AFTER, true), 3);
        due("make", x.create(0, abs(3, 1), true), 6);
        due("of the first", x.about(6, PARENT), 3);
        due("it goes", x.remove(0, abs(3, 1)), 6);
        due("the first goes", x.remove(0, abs(1)), 3);
        due("the first is GONE", x.create(0, abs(3, 1), true), NOT_FOUND);
        due("in the last", x.create(0, abs(2, 2), true), 6);
        due("EXISTS before NOT_FOUND", x.create(0, abs(3, 2), true), EXISTS);
        due("one before it, without CREATE", x.mount(0, 1, abs(3), BEFORE, false), 4);
        due("the first with CREATE is GONE", x.create(0, abs(3, 3), true), NOT_FOUND);
        due("one before it, with CREATE", x.mount(0, 2, abs(3), BEFORE, true), 5);
        due("the first with CREATE is THERE", x.create(0, abs(3, 3), true), 7);
        due("parent", x.about(7, PARENT), 2);
    }

    private static void createFull() {
        part = "11: FULL";
        BoundTrees x = row(5);
        for (int node = 8; node < 47; node++) {
            int i = node - 8;
            due("make " + node, x.create(0, abs(1 + i / 9, 1 + i % 9), false), node);
        }
        due("the last one", x.create(0, abs(6), true), 47);
        due("no more", x.create(0, abs(7), true), FULL);
        due("no more", x.create(0, abs(7), false), FULL);
        due("nothing was made", x.about(0, CHILDREN), 6);
        due("nothing was made", x.about(0, VERSION), 6);
        due("others are evaluated before", x.create(0, abs(9, 1), true), NOT_FOUND);
        due("NOT_DIRECTORY before", x.create(0, abs(1, 1, 1), true), NOT_DIRECTORY);
        due("EXISTS before", x.create(0, abs(1), true), EXISTS);
        due("REFUSED before", x.create(0, abs(1, BACK), true), REFUSED);
        due("cover", x.mount(0, 1, abs(1), REPLACE, false), 1);
        due("NO_CREATE before", x.create(0, abs(1, 1), true), NO_CREATE);
        due("a member with CREATE", x.bind(0, abs(6), abs(1), BEFORE, true), 2);
        due("FULL in it", x.create(0, abs(1, 1), true), FULL);
        due("the member is GONE", x.remove(0, abs(6)), 47);
        due("NOT_FOUND before", x.create(0, abs(1, 1), true), NOT_FOUND);
        due("held, so there is no free one", x.create(0, abs(6), true), FULL);
        due("let go", x.unmount(0, NONE, abs(1)), 0);
        due("now there is", x.create(0, abs(6), true), 47);
    }

    // Promises 12 and 13

    private static void removeARoot() {
        part = "12: KIND if it is a root";
        BoundTrees x = new BoundTrees();
        due("empty", x.remove(0, ROOT), KIND);
        due("by DOT", x.remove(0, HERE), KIND);
        due("by back", x.remove(0, abs(BACK)), KIND);
        due("covered by an empty one", x.mount(0, 1, ROOT, REPLACE, true), 1);
        due("it is the place", x.remove(0, ROOT), KIND);
        due("with children", x.create(0, abs(1), true), 3);
        due("let go", x.unmount(0, NONE, ROOT), 0);
        due("make", x.create(0, abs(1), true), 4);
        due("KIND before NOT_EMPTY", x.remove(0, ROOT), KIND);
        due("3, the first that is none", x.mount(0, 1, ROOT, REPLACE, true), 1);
        due("3, the first that is none", x.remove(0, abs(1)), 3);
    }

    private static void removeNotEmpty() {
        part = "12: NOT_EMPTY if it has children";
        BoundTrees x = row(3);
        due("none", x.remove(0, abs(3)), 5);
        due("make", x.create(0, abs(1, 1), false), 5);
        due("one", x.remove(0, abs(1)), NOT_EMPTY);
        due("make", x.create(0, abs(1, 2), false), 6);
        due("two", x.remove(0, abs(1)), NOT_EMPTY);
        due("cover it with an empty one", x.mount(0, 1, abs(1), REPLACE, true), 1);
        due("its own, not those SEEN", x.remove(0, abs(1)), NOT_EMPTY);
        due("let go", x.unmount(0, NONE, abs(1)), 0);
        due("one goes", x.remove(0, abs(1, 1)), 5);
        due("one", x.remove(0, abs(1)), NOT_EMPTY);
        due("hold the last", x.open(0, abs(1, 2)), 0);
        due("the last goes", x.remove(0, abs(1, 2)), 6);
        due("a GONE one is no child", x.remove(0, abs(1)), 3);
        due("cover 2 with one that has children", x.bind(0, ROOT, abs(2), REPLACE, true), 1);
        due("it has none of its own", x.remove(0, abs(2)), 4);
        due("a file that holds ints", x.create(0, abs(4), false), 3);
        due("open", x.open(0, abs(4)), 1);
        due("write", x.write(0, 1, 1), 1);
        due("has no children", x.remove(0, abs(4)), 3);
    }

    private static void removeGoneOrFree() {
        part = "12: The place of a path is GONE (or FREE) from now on: its number";
        BoundTrees x = twoAndTwo();
        due("not held", x.remove(0, abs(8)), 5);
        due("FREE", x.state(5), FREE);
        due("open", x.open(0, abs(9)), 0);
        due("held", x.remove(0, abs(9)), 6);
        due("GONE", x.state(6), GONE);
        due("once only", x.remove(0, abs(9)), NOT_FOUND);
        due("as before", x.about(0, VERSION), 6);
        due("the parent has it no more", x.about(0, CHILDREN), 2);
        due("no path", x.remove(0, 11), REFUSED);
        due("no process", x.remove(1, abs(1)), REFUSED);
        due("the place, not what is SEEN", x.bind(0, abs(2), abs(1), REPLACE, true), 1);
        due("the place, not what is SEEN", x.remove(0, abs(1)), 3);
        due("the other stays", x.state(4), THERE);
        due("covered, so held", x.state(3), GONE);
    }

    private static void openLeastNotOpen() {
        part = "13: the descriptor, the least that is not open. FULL if all are";
        BoundTrees x = twoAndTwo();
        for (int d = 0; d < 4; d++) {
            due("open", x.open(0, d % 2 == 0 ? abs(8) : abs(1)), d);
        }
        due("all are", x.open(0, abs(8)), FULL);
        due("all are", x.open(0, abs(1)), FULL);
        due("evaluation comes before", x.open(0, abs(7)), NOT_FOUND);
        due("evaluation comes before", x.open(0, abs(8, 1)), NOT_DIRECTORY);
        due("REFUSED comes before", x.open(0, 11), REFUSED);
        due("REFUSED comes before", x.open(1, abs(8)), REFUSED);
        due("close", x.close(0, 3), true);
        due("close", x.close(0, 1), true);
        due("the lesser of two", x.open(0, abs(1)), 1);
        due("then the other", x.open(0, abs(1)), 3);
        due("all are", x.open(0, abs(1)), FULL);
        due("fork", x.fork(0, OWN, false), 1);
        due("all are, in the copy", x.open(1, abs(1)), FULL);
        due("close", x.close(1, 0), true);
        due("the least", x.open(1, abs(1)), 0);
    }

    private static void openBeginsAnew() {
        part = "13: the descriptor, opened again";
        BoundTrees x = fileOf(2);
        due("close", x.close(0, 0), true);
        due("open", x.open(0, abs(1)), 0);
        readIs(x, 0, 0, 10, 20, END);
        due("make", x.create(0, abs(2), true), 4);
        due("make", x.create(0, abs(2, 1), true), 5);
        due("union", x.bind(0, ROOT, abs(2), BEFORE, false), 2);
        due("close", x.close(0, 0), true);
        due("open", x.open(0, abs(2)), 0);
        readIs(x, 0, 0, 3, 4, 5, END);
        due("close", x.close(0, 0), true);
        due("open", x.open(0, abs(2)), 0);
        readIs(x, 0, 0, 3);
        due("close", x.close(0, 0), true);
        due("open", x.open(0, abs(1)), 0);
        readIs(x, 0, 0, 10, 20, END);
    }

    private static void openWhatIsSeenNow() {
        part = "13: Opens what is SEEN now at the place of a path (all of that is held)";
        BoundTrees x = twoAndTwo();
        due("make", x.create(0, abs(1, 1), false), 7);
        due("open", x.open(0, abs(1)), 0);
        due("covered later", x.mount(0, 1, abs(1), REPLACE, true), 1);
        readIs(x, 0, 0, 7, END);
        due("open", x.open(0, abs(1)), 1);
        due("let go later", x.unmount(0, NONE, abs(1)), 0);
        readIs(x, 0, 1, END);
        due("a file over a file", x.bind(0, abs(8), abs(9), REPLACE, true), 1);
        due("open", x.open(0, abs(9)), 2);
        due("let go later", x.unmount(0, NONE, abs(9)), 0);
        due("write", x.write(0, 2, 5), 1);
        due("into what was SEEN", x.about(5, INTS), 1);
        due("not into the place", x.about(6, INTS), 0);
        due("the place is not held", x.remove(0, abs(9)), 6);
        due("FREE", x.state(6), FREE);
        due("what was SEEN is", x.remove(0, abs(8)), 5);
        due("GONE", x.state(5), GONE);
    }

    private static void openFiveBesideOthers() {
        part = "13: Opens what is SEEN now, five of them, between two that are open";
        BoundTrees x = row(2);
        due("make", x.create(0, abs(2, 1), false), 5);
        cover(x, abs(1), 5);
        for (int d = 0; d < 3; d++) {
            due("open", x.open(0, abs(2)), d);
        }
        due("close", x.close(0, 1), true);
        due("five", x.open(0, abs(1)), 1);
        readIs(x, 0, 0, 5, END);
        readIs(x, 0, 1, END);
        readIs(x, 0, 2, 5, END);
    }

    // Promise 14

    private static void readBehindTheLast() {
        part = "14: the int at its position (0 at first), which grows by 1; END behind the last one";
        BoundTrees x = fileOf(0);
        readIs(x, 0, 0, END, END);
        due("write", x.write(0, 0, 10), 1);
        readIs(x, 0, 0, END);
        due("END leaves the position", x.write(0, 0, 20), 2);
        due("open", x.open(0, abs(1)), 1);
        readIs(x, 0, 1, 10, 20, END, END);
        due("written by the other", x.write(0, 0, 30), 3);
        readIs(x, 0, 1, 30, END);
        x = fileOf(6);
        readIs(x, 0, 0, END);
        due("seek", x.seek(0, 0, 5), true);
        readIs(x, 0, 0, 60, END, END);
    }

    private static void readInTheOrderOfMaking() {
        part = "14: the number of the next child .. in the order in which they were made";
        BoundTrees x = row(4);
        due("remove", x.remove(0, abs(2)), 4);
        due("make", x.create(0, abs(2), true), 4);
        due("open", x.open(0, ROOT), 0);
        readIs(x, 0, 0, 3, 5, 6, 4, END);
        due("of the root alone", x.create(0, abs(1, 1), true), 7);
        readIs(x, 0, 0, END);
    }

    private static void readUnion() {
        part = "14: those of the first one SEEN, then those of the next one (the one before is done with then)";
        BoundTrees x = row(3);
        due("in the first", x.create(0, abs(1, 1), false), 6);
        due("in the second", x.create(0, abs(2, 1), false), 7);
        due("in the second", x.create(0, abs(2, 2), false), 8);
        due("union", x.bind(0, abs(1), abs(3), REPLACE, false), 1);
        due("union", x.bind(0, abs(2), abs(3), AFTER, false), 2);
        due("open", x.open(0, abs(3)), 0);
        readIs(x, 0, 0, 6);
        due("the first is not done with", x.create(0, abs(1, 2), false), 9);
        readIs(x, 0, 0, 9, 7);
        due("the first is done with", x.create(0, abs(1, 3), false), 10);
        due("the second is not", x.create(0, abs(2, 3), false), 11);
        readIs(x, 0, 0, 8, 11, END);
        due("anew", x.seek(0, 0, 0), true);
        readIs(x, 0, 0, 6, 9, 10, 7, 8, 11, END);
    }

    private static void readFiveWithEmptyOnes() {
        part = "14: and so on: five, the first, the third and the last without children";
        BoundTrees x = row(6);
        due("in the second", x.create(0, abs(2, 1), false), 9);
        due("in the fourth", x.create(0, abs(4, 1), false), 10);
        due("union", x.bind(0, abs(1), abs(6), REPLACE, false), 1);
        for (int i = 2; i <= 5; i++) {
            due("union", x.bind(0, abs(i), abs(6), AFTER, false), i);
        }
        due("open", x.open(0, abs(6)), 0);
        readIs(x, 0, 0, 9, 10, END, END);
        due("in the first", x.create(0, abs(1, 1), false), 11);
        due("in the fourth", x.create(0, abs(4, 2), false), 12);
        readIs(x, 0, 0, END);
        due("in the last", x.create(0, abs(5, 1), false), 13);
        readIs(x, 0, 0, 13, END);
        due("anew", x.seek(0, 0, 0), true);
        readIs(x, 0, 0, 11, 9, 10, 12, 13, END);
    }

    private static void readMadeSince() {
        part = "14: END if there are no more now (at the next reading what was made since comes, what is GONE does not)";
        BoundTrees x = row(2);
        due("open", x.open(0, abs(1)), 0);
        readIs(x, 0, 0, END);
        due("made since", x.create(0, abs(1, 1), false), 5);
        due("made since", x.create(0, abs(1, 2), false), 6);
        due("and GONE", x.open(0, abs(1, 1)), 1);
        due("and GONE", x.remove(0, abs(1, 1)), 5);
        readIs(x, 0, 0, 6, END);
        due("made since", x.create(0, abs(1, 3), false), 7);
        due("and FREE", x.remove(0, abs(1, 3)), 7);
        readIs(x, 0, 0, END);
        due("the number again", x.create(0, abs(1, 4), false), 7);
        due("the number elsewhere", x.remove(0, abs(1, 2)), 6);
        due("the number elsewhere", x.create(0, abs(2, 2), false), 6);
        readIs(x, 0, 0, 7, END);
        due("the directory goes", x.remove(0, abs(1, 4)), 7);
        due("the directory goes", x.remove(0, abs(1)), 3);
        due("held", x.state(3), GONE);
        readIs(x, 0, 0, END);
        due("anew", x.seek(0, 0, 0), true);
        readIs(x, 0, 0, END);
    }

    private static void readClosed() {
        part = "14: CLOSED if the descriptor is not open or there is no such one or process";
        BoundTrees x = fileOf(1);
        due("seek", x.seek(0, 0, 0), true);
        for (int d : new int[] {LEAST, -1, 1, 2, 3, 4, GREATEST}) {
            due("descriptor " + d, x.read(0, d), CLOSED);
        }
        for (int p : new int[] {LEAST, -1, 1, 2, 3, 4, GREATEST}) {
            due("process " + p, x.read(p, 0), CLOSED);
        }
        due("open", x.read(0, 0), 10);
        due("close", x.close(0, 0), true);
        due("not open", x.read(0, 0), CLOSED);
    }

    // Promises 15 to 17

    private static void writeInPlaceOrBehind() {
        part = "15: v takes the place of the int at its position, or comes behind the last one; the position grows by 1, and is answered";
        BoundTrees x = fileOf(2);
        due("at 0", x.seek(0, 0, 0), true);
        due("takes the place", x.write(0, 0, 11), 1);
        due("still two", x.about(3, INTS), 2);
        due("takes the place of the last", x.write(0, 0, 22), 2);
        due("still two", x.about(3, INTS), 2);
        due("comes behind the last", x.write(0, 0, 33), 3);
        due("three", x.about(3, INTS), 3);
        due("at 0", x.seek(0, 0, 0), true);
        readIs(x, 0, 0, 11, 22, 33, END);
        due("behind END", x.write(0, 0, LEAST), 4);
        due("at 3", x.seek(0, 0, 3), true);
        readIs(x, 0, 0, LEAST, END);
    }

    private static void writeRefused() {
        part = "15: REFUSED if the descriptor is not open, or for directories";
        BoundTrees x = fileOf(1);
        due("a directory", x.open(0, ROOT), 1);
        due("a directory", x.write(0, 1, 1), REFUSED);
        due("a union", x.mount(0, 1, ROOT, AFTER, true), 2);
        due("a union", x.open(0, ROOT), 2);
        due("a union", x.write(0, 2, 1), REFUSED);
        readIs(x, 0, 1, 3, END);
        due("a directory at its END", x.write(0, 1, 1), REFUSED);
        for (int d : new int[] {LEAST, -1, 3, 4, GREATEST}) {
            due("descriptor " + d, x.write(0, d, 1), REFUSED);
        }
        for (int p : new int[] {LEAST, -1, 1, 4, GREATEST}) {
            due("process " + p, x.write(p, 0, 1), REFUSED);
        }
        due("open", x.write(0, 0, 2), 2);
        due("close", x.close(0, 0), true);
        due("not open", x.write(0, 0, 2), REFUSED);
        due("ints", x.about(3, INTS), 2);
        due("versions", x.about(3, VERSION), 2);
        due("versions", x.about(0, VERSION), 1);
    }

    private static void writeFull() {
        part = "15: FULL if the position is 6";
        BoundTrees x = fileOf(5);
        due("at 5", x.write(0, 0, 60), 6);
        due("at 6", x.write(0, 0, 70), FULL);
        due("at 6 again", x.write(0, 0, 70), FULL);
        due("ints", x.about(3, INTS), 6);
        due("version", x.about(3, VERSION), 6);
        due("another at 0", x.open(0, abs(1)), 1);
        due("is not at 6", x.write(0, 1, 11), 1);
        due("seek 5", x.seek(0, 0, 5), true);
        due("at 5", x.write(0, 0, 66), 6);
        due("seek 6", x.seek(0, 0, 6), true);
        due("at 6", x.write(0, 0, 70), FULL);
        due("seek 0", x.seek(0, 0, 0), true);
        readIs(x, 0, 0, 11, 20, 30, 40, 50, 66, END);
        due("read up to 6", x.write(0, 0, 70), FULL);
    }

    private static void writeGone() {
        part = "15: A file: also one that is GONE and held";
        BoundTrees x = fileOf(1);
        due("remove", x.remove(0, abs(1)), 3);
        due("write", x.write(0, 0, 20), 2);
        due("ints", x.about(3, INTS), 2);
        due("version", x.about(3, VERSION), 2);
        due("seek", x.seek(0, 0, 0), true);
        readIs(x, 0, 0, 10, 20, END);
    }

    private static void seekUpToTheNumberOfInts() {
        part = "16: k, 0 up to the number of its ints";
        for (int count = 0; count <= 6; count++) {
            BoundTrees x = fileOf(count);
            due("to the end of " + count, x.seek(0, 0, count), true);
            due("behind it", x.seek(0, 0, count + 1), false);
            due("below 0", x.seek(0, 0, -1), false);
            due("the least", x.seek(0, 0, LEAST), false);
            due("the greatest", x.seek(0, 0, GREATEST), false);
            readIs(x, 0, 0, END);
            due("to 0", x.seek(0, 0, 0), true);
            due("behind it", x.seek(0, 0, count + 1), false);
            readIs(x, 0, 0, count == 0 ? END : 10);
            for (int k = 0; k < count; k++) {
                due("to " + k, x.seek(0, 0, k), true);
                readIs(x, 0, 0, 10 * (k + 1));
            }
        }
    }

    private static void seekGrowsWithTheFile() {
        part = "16: the number of its ints, as it is now";
        BoundTrees x = fileOf(1);
        due("open", x.open(0, abs(1)), 1);
        due("two would be behind", x.seek(0, 1, 2), false);
        due("written by the other", x.write(0, 0, 20), 2);
        due("two is the end", x.seek(0, 1, 2), true);
        readIs(x, 0, 1, END);
        due("one", x.seek(0, 1, 1), true);
        readIs(x, 0, 1, 20);
    }

    private static void seekDirectories() {
        part = "16: for directories reading begins anew if k is 0";
        BoundTrees x = row(2);
        due("make", x.create(0, abs(1, 1), false), 5);
        due("union", x.bind(0, abs(1), ROOT, BEFORE, false), 2);
        due("open", x.open(0, ROOT), 0);
        due("at once", x.seek(0, 0, 0), true);
        readIs(x, 0, 0, 5, 3);
        for (int k : new int[] {LEAST, -1, 1, 2, 6, GREATEST}) {
            due("k " + k, x.seek(0, 0, k), false);
        }
        readIs(x, 0, 0, 4, END);
        due("behind END", x.seek(0, 0, 0), true);
        readIs(x, 0, 0, 5, 3, 4, END);
    }

    private static void seekNotOpen() {
        part = "16: false if it is not open";
        BoundTrees x = fileOf(1);
        for (int d : new int[] {LEAST, -1, 1, 3, 4, GREATEST}) {
            due("descriptor " + d, x.seek(0, d, 0), false);
        }
        for (int p : new int[] {LEAST, -1, 1, 4, GREATEST}) {
            due("process " + p, x.seek(p, 0, 0), false);
        }
        readIs(x, 0, 0, END);
        due("close", x.close(0, 0), true);
        due("not open", x.seek(0, 0, 0), false);
    }

    private static void closeOnce() {
        part = "17: Closes a descriptor: true; false if it is not open";
        BoundTrees x = fileOf(1);
        due("open", x.open(0, abs(1)), 1);
        for (int d : new int[] {LEAST, -1, 2, 3, 4, GREATEST}) {
            due("descriptor " + d, x.close(0, d), false);
        }
        for (int p : new int[] {LEAST, -1, 1, 4, GREATEST}) {
            due("process " + p, x.close(p, 0), false);
        }
        due("open", x.close(0, 0), true);
        due("not open", x.close(0, 0), false);
        due("the other is open", x.read(0, 1), 10);
        due("the other", x.close(0, 1), true);
        due("not open", x.read(0, 1), CLOSED);
        for (int d = 0; d < 4; d++) {
            due("open again", x.open(0, abs(1)), d);
        }
        due("the last", x.close(0, 3), true);
        due("the last", x.close(0, 3), false);
    }

    // Promises 18 to 20

    private static void stateOfANode() {
        part = "18: 0 FREE, 1 THERE, 2 GONE; REFUSED if there is no such node";
        BoundTrees x = row(1);
        due("free", x.state(4), 0);
        due("there", x.state(3), 1);
        due("hold", x.open(0, abs(1)), 0);
        due("remove", x.remove(0, abs(1)), 3);
        due("gone", x.state(3), 2);
        due("close", x.close(0, 0), true);
        due("free", x.state(3), 0);
        due("the last", x.state(47), 0);
        for (int node : new int[] {LEAST, -2, -1, 48, 49, GREATEST}) {
            due("no node " + node, x.state(node), REFUSED);
        }
    }

    private static void aboutWhat() {
        part = "19: what 0 .. 4";
        BoundTrees x = row(2);
        due("make", x.create(0, abs(2, 7), false), 5);
        due("open", x.open(0, abs(2, 7)), 0);
        due("write", x.write(0, 0, 1), 1);
        due("write", x.write(0, 0, 1), 2);
        due("seek", x.seek(0, 0, 0), true);
        due("write", x.write(0, 0, 1), 1);
        due("its version", x.about(5, VERSION), 3);
        due("how many ints", x.about(5, INTS), 2);
        due("how many children", x.about(5, CHILDREN), 0);
        due("its name", x.about(5, NAME), 7);
        due("its parent", x.about(5, PARENT), 4);
        due("a directory's version", x.about(4, VERSION), 1);
        due("a directory's ints", x.about(4, INTS), 0);
        due("a directory's children", x.about(4, CHILDREN), 1);
        for (int what : new int[] {LEAST, -1, 5, GREATEST}) {
            due("what " + what, x.about(5, what), REFUSED);
            due("what " + what, x.about(0, what), REFUSED);
        }
    }

    private static void aboutARoot() {
        part = "19: its name (0 a root), its parent (-1 a root)";
        BoundTrees x = row(1);
        for (int root = 0; root < 3; root++) {
            due("name", x.about(root, NAME), 0);
            due("parent", x.about(root, PARENT), -1);
            due("ints", x.about(root, INTS), 0);
            due("children", x.about(root, CHILDREN), root == 0 ? 1 : 0);
        }
        due("no root", x.about(3, NAME), 1);
        due("no root", x.about(3, PARENT), 0);
    }

    private static void aboutAGoneOne() {
        part = "19: its parent (that of when it was THERE)";
        BoundTrees x = row(2);
        due("make", x.create(0, abs(2, 7), false), 5);
        due("open", x.open(0, abs(2, 7)), 0);
        due("remove", x.remove(0, abs(2, 7)), 5);
        due("the parent goes", x.remove(0, abs(2)), 4);
        due("it is FREE", x.state(4), FREE);
        due("that of when it was THERE", x.about(5, PARENT), 4);
        due("its name", x.about(5, NAME), 7);
        due("another by that number", x.create(0, abs(3), true), 4);
        due("that of when it was THERE", x.about(5, PARENT), 4);
        due("but the other has no children", x.about(4, CHILDREN), 0);
        due("and none of that name", x.place(0, abs(3, 7)), NOT_FOUND);
        due("so one is made", x.create(0, abs(3, 7), true), 6);
    }

    private static void aboutRefused() {
        part = "19: Of a node that is not FREE; REFUSED otherwise";
        BoundTrees x = row(1);
        for (int what = 0; what <= 4; what++) {
            due("THERE, what " + what, x.about(3, what), new int[] {0, 0, 0, 1, 0}[what]);
            due("FREE, what " + what, x.about(4, what), REFUSED);
            due("FREE, the last, what " + what, x.about(47, what), REFUSED);
            for (int node : new int[] {LEAST, -1, 48, GREATEST}) {
                due("no node " + node + ", what " + what, x.about(node, what), REFUSED);
            }
        }
        due("remove", x.remove(0, abs(1)), 3);
        for (int what = 0; what <= 4; what++) {
            due("FREE again, what " + what, x.about(3, what), REFUSED);
        }
    }

    private static void unmountFreshBeforeOld() {
        part = "20: unmount: fresh is evaluated before old";
        BoundTrees x = twoAndTwo();
        due("fresh NOT_FOUND, old NOT_DIRECTORY", x.unmount(0, abs(7), abs(8, 1)), NOT_FOUND);
        due("fresh NOT_DIRECTORY, old NOT_FOUND", x.unmount(0, abs(8, 1), abs(7)), NOT_DIRECTORY);
        due("fresh fine, old NOT_DIRECTORY", x.unmount(0, abs(1), abs(8, 1)), NOT_DIRECTORY);
        due("fresh fine, old NOT_FOUND", x.unmount(0, abs(1), abs(7)), NOT_FOUND);
        due("all, old NOT_FOUND", x.unmount(0, NONE, abs(7)), NOT_FOUND);
        due("all, old NOT_DIRECTORY", x.unmount(0, NONE, abs(8, 1)), NOT_DIRECTORY);
        due("fresh NOT_FOUND, old not covered", x.unmount(0, abs(7), abs(1)), NOT_FOUND);
        due("no path comes before: old", x.unmount(0, abs(7), 11), REFUSED);
        due("no path comes before: old is NONE", x.unmount(0, abs(7), NONE), REFUSED);
        due("no path comes before: fresh", x.unmount(0, 11, abs(7)), REFUSED);
        due("no process", x.unmount(1, abs(7), abs(7)), REFUSED);
    }

    public static void main(String[] args) {
        newObject();
        placeOfAPath();
        seenBehindTheLast();
        forkLeastNumber();
        forkDot();
        forkSpaceArgument();
        forkFull();
        forkOwnSpace();
        forkCopiedSpace();
        forkEmptySpace();
        forkAfterExits();
        forkEmptyAfterExits();
        forkSharedDescriptors();
        forkCopiedDescriptors();
        exitHowManyAreLeft();
        exitEndsAllOfIt();
        chdirToAFile();
        chdirTrail();
        dotOfNoneToSixNames();
        dotByTheNamesInIt();
        bindOrders();
        bindOnItself();
        bindListOfOneNotCovered();
        bindCreate();
        bindOrderArgument();
        bindFreshFirst();
        bindKind();
        bindMoreThan5();
        bindThreeAndTwo();
        bindSeventhCovered();
        mountTree();
        mountItself();
        mountTheSame();
        mountFull();
        unmountFirst();
        unmountAll();
        unmountHowManyAreLeft();
        unmountNotBound();
        unmountPlaceOfFresh();
        createLeastFree();
        createNoName();
        createOthersEvaluated();
        createTooDeep();
        createGonePlace();
        createExists();
        createLastChild();
        createInTheFirstWithCreate();
        createInAGoneOne();
        createFull();
        removeARoot();
        removeNotEmpty();
        removeGoneOrFree();
        openLeastNotOpen();
        openBeginsAnew();
        openWhatIsSeenNow();
        openFiveBesideOthers();
        readBehindTheLast();
        readInTheOrderOfMaking();
        readUnion();
        readFiveWithEmptyOnes();
        readMadeSince();
        readClosed();
        writeInPlaceOrBehind();
        writeRefused();
        writeFull();
        writeGone();
        seekUpToTheNumberOfInts();
        seekGrowsWithTheFile();
        seekDirectories();
        seekNotOpen();
        closeOnce();
        stateOfANode();
        aboutWhat();
        aboutARoot();
        aboutAGoneOne();
        aboutRefused();
        unmountFreshBeforeOld();
        System.out.println(checks + " checks, " + wrong + " wrong");
        if (wrong != 0) {
            System.exit(1);
        }
    }
}
