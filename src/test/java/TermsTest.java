/** Each sentence of 'Terms' that names a boundary case, with a test of its own: both sides of each limit. */
public final class TermsTest {
    private static final int BACK = 10;
    private static final int NONE = 1 << 30;
    private static final int ROOT = -1, HERE = 0;
    private static final int LEAST = Integer.MIN_VALUE, GREATEST = Integer.MAX_VALUE;
    private static final int FREE = 0, THERE = 1, GONE = 2;
    private static final int VERSION = 0, INTS = 1, CHILDREN = 2, NAME = 3, PARENT = 4;
    private static final int REFUSED = -1, NOT_FOUND = -2, NOT_DIRECTORY = -3, TOO_DEEP = -4, EXISTS = -5;
    private static final int FULL = -6, KIND = -7, NO_CREATE = -8, NOT_EMPTY = -9, NOT_BOUND = -10;
    private static final long END = 1L << 40, CLOSED = -(1L << 40);
    /** 11 to the 6th: the least number of seven digits. */
    private static final int SEVEN_DIGITS = 11 * 11 * 11 * 11 * 11 * 11;

    private static int wrong = 0;
    private static int checks = 0;
    private static String part = "";

    private static void due(String what, long got, long want) {
        checks++;
        if (got != want) {
            wrong++;
            System.out.println(part + ": " + what + " answered " + got + ", due is " + want);
        }
    }

    private static void due(String what, boolean got, boolean want) {
        due(what, got ? 1L : 0L, want ? 1L : 0L);
    }

    private static int from(int... elements) {
        int row = 0;
        for (int e : elements) {
            row = row * 11 + e;
        }
        return row;
    }

    private static int abs(int... elements) {
        return -1 - from(elements);
    }

    private static int backs(int count) {
        int row = 0;
        for (int i = 0; i < count; i++) {
            row = row * 11 + BACK;
        }
        return row;
    }

    private static void seenIs(BoundTrees x, int p, int path, int... nodes) {
        for (int k = 0; k < nodes.length; k++) {
            due("seen " + k, x.seen(p, path, k), nodes[k]);
        }
        due("seen behind the last", x.seen(p, path, nodes.length), NONE);
    }

    private static void readIs(BoundTrees x, int p, int d, long... answers) {
        for (int k = 0; k < answers.length; k++) {
            due("read " + k, x.read(p, d), answers[k]);
        }
    }

    private static void statesAre(BoundTrees x, int first, int last, int state) {
        for (int node = first; node <= last; node++) {
            due("state of " + node, x.state(node), state);
        }
    }

    /** Directories 3, 4 and so on under the root, by the names 1, 2 and so on. */
    private static BoundTrees row(int count) {
        BoundTrees x = new BoundTrees();
        for (int i = 1; i <= count; i++) {
            due("make " + i, x.create(0, abs(i), true), 2 + i);
        }
        return x;
    }

    /** Directories 3 to 8, each in the one before by the name 1, and DOT the last: a trail of 7. */
    private static BoundTrees chain() {
        BoundTrees x = new BoundTrees();
        for (int i = 0; i < 6; i++) {
            due("make", x.create(0, from(1), true), 3 + i);
            due("down", x.chdir(0, from(1)), 3 + i);
        }
        return x;
    }

    /** Directories 3 to 8; 8, by the name 6, is covered by the other five. */
    private static BoundTrees unionOfFive() {
        BoundTrees x = row(6);
        due("the first", x.bind(0, abs(1), abs(6), 0, false), 1);
        for (int i = 2; i <= 5; i++) {
            due("the next", x.bind(0, abs(i), abs(6), 2, false), i);
        }
        return x;
    }

    // Nodes

    private static BoundTrees allNodes() {
        BoundTrees x = row(5);
        for (int node = 8; node < 48; node++) {
            int i = node - 8;
            due("make " + node, x.create(0, abs(1 + i / 9, 1 + i % 9), false), node);
        }
        return x;
    }

    private static void nodes0To47() {
        part = "NODES 0 .. 47";
        BoundTrees x = row(1);
        due("below the first", x.state(-1), REFUSED);
        due("the first", x.state(0), THERE);
        due("the last", x.state(47), FREE);
        due("behind the last", x.state(48), REFUSED);
        x = allNodes();
        statesAre(x, 0, 47, THERE);
        due("behind the last", x.state(48), REFUSED);
        due("no forty-ninth", x.create(0, abs(6), true), FULL);
        due("the last has a name", x.about(47, NAME), 4);
        due("the last is found", x.place(0, abs(5, 4)), 47);
        due("the last goes", x.remove(0, abs(5, 4)), 47);
        due("it is free", x.state(47), FREE);
        due("it is made again", x.create(0, abs(6), true), 47);
        due("and no other", x.create(0, abs(7), true), FULL);
    }

    private static void lastNodeHoldsInts() {
        part = "NODES 0 .. 47, the last as a file";
        BoundTrees x = allNodes();
        due("open the last", x.open(0, abs(5, 4)), 0);
        due("open the one before", x.open(0, abs(5, 3)), 1);
        for (int i = 1; i <= 6; i++) {
            due("write", x.write(0, 0, 100 + i), i);
            due("write", x.write(0, 1, 200 + i), i);
        }
        due("anew", x.seek(0, 0, 0), true);
        due("anew", x.seek(0, 1, 0), true);
        readIs(x, 0, 0, 101, 102, 103, 104, 105, 106, END);
        readIs(x, 0, 1, 201, 202, 203, 204, 205, 206, END);
    }

    private static void rootsAreAlwaysThere() {
        part = "0, 1, 2 are always there: the roots of three trees, directories";
        BoundTrees x = new BoundTrees();
        statesAre(x, 0, 2, THERE);
        statesAre(x, 3, 47, FREE);
        due("0 is not removed", x.remove(0, ROOT), KIND);
        for (int tree = 1; tree < 3; tree++) {
            due("mount", x.mount(0, tree, ROOT, 0, true), 1);
            due("a directory, so a child is made in it", x.create(0, abs(1), false), 2 + tree);
            due("parent", x.about(2 + tree, PARENT), tree);
            due("open", x.open(0, ROOT), 0);
            readIs(x, 0, 0, 2 + tree, END);
            due("close", x.close(0, 0), true);
            due("let go", x.unmount(0, NONE, ROOT), 0);
        }
        statesAre(x, 0, 2, THERE);
        due("a root's child stays when nobody sees it", x.state(3), THERE);
        due("the first number behind them", x.create(0, abs(1), true), 5);
    }

    private static void stateIsFreeThereOrGone() {
        part = "A node is FREE, THERE or GONE";
        BoundTrees x = new BoundTrees();
        due("before it is made", x.state(3), FREE);
        due("make", x.create(0, abs(1), true), 3);
        due("made", x.state(3), THERE);
        due("hold", x.chdir(0, abs(1)), 3);
        due("held and there", x.state(3), THERE);
        due("remove", x.remove(0, HERE), 3);
        due("held and removed", x.state(3), GONE);
        due("leave", x.chdir(0, ROOT), 0);
        due("not held", x.state(3), FREE);
        due("make another", x.create(0, abs(2), false), 3);
        due("there again", x.state(3), THERE);
        due("remove what is not held", x.remove(0, abs(2)), 3);
        due("free at once", x.state(3), FREE);
    }

    private static void names1To9() {
        part = "a NAME 1 .. 9";
        BoundTrees x = row(9);
        for (int name = 1; name <= 9; name++) {
            due("name", x.about(2 + name, NAME), name);
            due("place", x.place(0, abs(name)), 2 + name);
        }
        due("0 is no name", x.create(0, abs(1, 0), true), REFUSED);
        due("0 is no name", x.create(0, HERE, true), REFUSED);
        due("10 is no name", x.create(0, abs(10), true), REFUSED);
        due("10 is no name", x.create(0, from(10), true), REFUSED);
        due("ten names would be one too many", x.about(0, CHILDREN), 9);
    }

    private static void parentIsThere() {
        part = "a PARENT, a directory that is THERE";
        BoundTrees x = row(1);
        due("a file", x.create(0, abs(2), false), 4);
        due("no child of a file", x.create(0, abs(2, 1), false), NOT_DIRECTORY);
        due("a child", x.create(0, abs(1, 1), false), 5);
        due("a parent of children stays", x.remove(0, abs(1)), NOT_EMPTY);
        due("the only child goes", x.remove(0, abs(1, 1)), 5);
        due("hold", x.chdir(0, abs(1)), 3);
        due("now it goes", x.remove(0, HERE), 3);
        due("no child of a GONE one", x.create(0, from(1), false), NOT_FOUND);
        due("it has none", x.about(3, CHILDREN), 0);
    }

    private static void oneChildOfAName() {
        part = "a directory has no two children of one name";
        BoundTrees x = row(2);
        due("a file of a directory's name", x.create(0, abs(1), false), EXISTS);
        due("a directory of a directory's name", x.create(0, abs(1), true), EXISTS);
        due("the name elsewhere", x.create(0, abs(1, 1), false), 5);
        due("the name elsewhere", x.create(0, abs(2, 1), false), 6);
        due("a directory of a file's name", x.create(0, abs(2, 1), true), EXISTS);
        due("open, so held", x.open(0, abs(2, 1)), 0);
        due("remove", x.remove(0, abs(2, 1)), 6);
        due("a GONE one leaves its name", x.create(0, abs(2, 1), true), 7);
        due("but not its number", x.state(6), GONE);
        due("one child", x.about(4, CHILDREN), 1);
    }

    private static void upTo6Ints() {
        part = "A file holds up to 6 ints";
        BoundTrees x = new BoundTrees();
        due("make", x.create(0, abs(1), false), 3);
        due("empty", x.about(3, INTS), 0);
        due("open", x.open(0, abs(1)), 0);
        int[] ints = {LEAST, -1, 0, 1, NONE, GREATEST};
        for (int i = 0; i < 6; i++) {
            due("write", x.write(0, 0, ints[i]), i + 1);
            due("ints", x.about(3, INTS), i + 1);
        }
        due("no seventh", x.write(0, 0, 7), FULL);
        due("still six", x.about(3, INTS), 6);
        due("anew", x.seek(0, 0, 0), true);
        readIs(x, 0, 0, LEAST, -1, 0, 1, NONE, GREATEST, END);
        due("no seventh after reading", x.write(0, 0, 7), FULL);
        due("an int that is there is written over", x.seek(0, 0, 5), true);
        due("the sixth", x.write(0, 0, 66), 6);
        due("still six", x.about(3, INTS), 6);
    }

    private static void versionIs0() {
        part = "A node's VERSION is 0 when it is made";
        BoundTrees x = new BoundTrees();
        for (int root = 0; root < 3; root++) {
            due("a root", x.about(root, VERSION), 0);
        }
        due("make", x.create(0, abs(1), true), 3);
        due("make", x.create(0, abs(2), false), 4);
        due("a directory", x.about(3, VERSION), 0);
        due("a file", x.about(4, VERSION), 0);
        due("a child of 3", x.create(0, abs(1, 1), false), 5);
        due("open", x.open(0, abs(2)), 0);
        due("write", x.write(0, 0, 8), 1);
        due("write", x.write(0, 0, 9), 2);
        due("close", x.close(0, 0), true);
        due("the child goes", x.remove(0, abs(1, 1)), 5);
        due("3 goes", x.remove(0, abs(1)), 3);
        due("4 goes", x.remove(0, abs(2)), 4);
        due("the number again, a file", x.create(0, abs(1), false), 3);
        due("the number again, a file", x.create(0, abs(2), false), 4);
        due("0 again", x.about(3, VERSION), 0);
        due("0 again", x.about(4, VERSION), 0);
        due("no ints of the one before", x.about(4, INTS), 0);
        due("open", x.open(0, abs(2)), 0);
        readIs(x, 0, 0, END);
    }

    private static void fileVersion() {
        part = "a file's grows by 1 with each write";
        BoundTrees x = row(1);
        due("make", x.create(0, abs(1, 1), false), 4);
        due("open", x.open(0, abs(1, 1)), 0);
        for (int i = 1; i <= 6; i++) {
            due("write", x.write(0, 0, i), i);
            due("version", x.about(4, VERSION), i);
        }
        due("one that is FULL", x.write(0, 0, 7), FULL);
        due("is no write", x.about(4, VERSION), 6);
        due("seek", x.seek(0, 0, 0), true);
        readIs(x, 0, 0, 1);
        due("nor is reading", x.about(4, VERSION), 6);
        due("the same int in its place", x.write(0, 0, 2), 2);
        due("is a write", x.about(4, VERSION), 7);
        due("its directory's is as before", x.about(3, VERSION), 1);
        due("no write", x.write(0, 1, 7), REFUSED);
        due("as before", x.about(4, VERSION), 7);
    }

    private static void directoryVersion() {
        part = "a directory's with each child made in it or removed from it";
        BoundTrees x = row(2);
        due("two made", x.about(0, VERSION), 2);
        due("make", x.create(0, abs(1, 1), true), 5);
        due("its own", x.about(3, VERSION), 1);
        due("not that above", x.about(0, VERSION), 2);
        due("EXISTS", x.create(0, abs(1, 1), true), EXISTS);
        due("makes none", x.about(3, VERSION), 1);
        due("NOT_EMPTY", x.remove(0, abs(1)), NOT_EMPTY);
        due("removes none", x.about(0, VERSION), 2);
        due("union", x.bind(0, abs(1), abs(2), 1, true), 2);
        due("binding is no making", x.about(4, VERSION), 0);
        due("made in 3, by way of 4", x.create(0, abs(2, 2), false), 6);
        due("3 has it", x.about(3, VERSION), 2);
        due("4 has not", x.about(4, VERSION), 0);
        due("open", x.open(0, abs(2)), 0);
        readIs(x, 0, 0, 5, 6, END);
        due("removed from 3, by way of 4", x.remove(0, abs(2, 1)), 5);
        due("3 has lost it", x.about(3, VERSION), 3);
        due("4 has not", x.about(4, VERSION), 0);
        due("the other", x.remove(0, abs(1, 2)), 6);
        due("3 has lost it", x.about(3, VERSION), 4);
        due("those of other trees", x.about(1, VERSION), 0);
        due("those of other trees", x.about(2, VERSION), 0);
    }

    // Processes

    private static void processes0To3() {
        part = "PROCESSES 0 .. 3";
        BoundTrees x = new BoundTrees();
        for (int p = 1; p <= 3; p++) {
            due("not there yet", x.dot(p), REFUSED);
            due("fork", x.fork(0, 1, false), p);
            due("there", x.dot(p), ROOT);
        }
        due("no fifth", x.fork(0, 1, false), FULL);
        due("below the first", x.dot(-1), REFUSED);
        due("behind the last", x.dot(4), REFUSED);
        due("below the first", x.place(LEAST, ROOT), REFUSED);
        due("behind the last", x.place(GREATEST, ROOT), REFUSED);
    }

    private static void descriptors0To3() {
        part = "DESCRIPTORS 0 .. 3, each open or not";
        BoundTrees x = row(1);
        for (int d = 0; d < 4; d++) {
            due("not open", x.read(0, d), CLOSED);
            due("open", x.open(0, abs(1)), d);
            due("open", x.read(0, d), END);
        }
        due("no fifth", x.open(0, abs(1)), FULL);
        for (int d : new int[] {LEAST, -1, 4, GREATEST}) {
            due("no descriptor " + d, x.read(0, d), CLOSED);
            due("no descriptor " + d, x.write(0, d, 1), REFUSED);
            due("no descriptor " + d, x.seek(0, d, 0), false);
            due("no descriptor " + d, x.close(0, d), false);
        }
        due("a fork in between has its own", x.fork(0, 1, false), 1);
        for (int d = 0; d < 4; d++) {
            due("close", x.close(0, d), true);
            due("not open", x.read(0, d), CLOSED);
            due("that of the other is", x.read(1, d), END);
        }
    }

    private static void allDescriptorsOfAll() {
        part = "DESCRIPTORS 0 .. 3, of the processes 0 .. 3, each with all that was SEEN";
        BoundTrees x = unionOfFive();
        for (int i = 1; i <= 5; i++) {
            due("make", x.create(0, abs(i, i), false), 8 + i);
        }
        for (int d = 0; d < 4; d++) {
            due("open", x.open(0, abs(6)), d);
        }
        for (int p = 1; p <= 3; p++) {
            due("fork", x.fork(0, 0, false), p);
        }
        for (int p = 0; p < 4; p++) {
            for (int d = 0; d < 4; d++) {
                readIs(x, p, d, 9, 10, 11, 12, 13, END);
            }
        }
        due("close", x.close(2, 1), true);
        due("close", x.close(3, 2), true);
        due("a directory alone", x.open(2, abs(5)), 1);
        due("five again", x.open(3, abs(6)), 2);
        readIs(x, 2, 1, 13, END);
        readIs(x, 3, 2, 9, 10, 11, 12, 13, END);
        for (int p = 0; p < 4; p++) {
            for (int d = 0; d < 4; d++) {
                due("anew", x.seek(p, d, 0), true);
                due("the first", x.read(p, d), p == 2 && d == 1 ? 13 : 9);
            }
        }
    }

    // Spaces

    /** Six covered, each by five members, in the spaces of all four processes. */
    private static void allMembersOfAll() {
        part = "up to 6 nodes are COVERED, each by a list of 1 to 5 MEMBERS, in the spaces of four processes";
        BoundTrees x = row(6);
        for (int i = 1; i <= 6; i++) {
            due("the last", x.bind(0, abs(i), abs(i), 0, true), 1);
            for (int count = 2; count <= 5; count++) {
                due("before it", x.mount(0, count % 3, abs(i), 1, false), count);
            }
        }
        for (int p = 1; p <= 3; p++) {
            due("fork", x.fork(0, 1, false), p);
        }
        for (int p = 0; p < 4; p++) {
            for (int i = 1; i <= 6; i++) {
                seenIs(x, p, abs(i), 2, 1, 0, 2, 2 + i);
            }
        }
        for (int p = 3; p >= 0; p--) {
            due("the last of the last", x.unmount(p, abs(6), abs(6)), 4);
            due("the third of the first", x.unmount(p, ROOT, abs(1)), 4);
            due("one more of the last", x.mount(p, 0, abs(6), 2, false), 5);
            due("one more of the first", x.mount(p, 0, abs(1), 1, false), 5);
            due("six of the last", x.mount(p, 0, abs(6), 2, false), FULL);
        }
        for (int p = 0; p < 4; p++) {
            seenIs(x, p, abs(1), 0, 2, 1, 2, 3);
            seenIs(x, p, abs(2), 2, 1, 0, 2, 4);
            seenIs(x, p, abs(5), 2, 1, 0, 2, 7);
            seenIs(x, p, abs(6), 2, 1, 0, 2, 0);
        }
    }

    private static void upTo6Covered() {
        part = "In a SPACE up to 6 nodes are COVERED";
        BoundTrees x = row(7);
        for (int i = 1; i <= 6; i++) {
            due("cover " + i, x.mount(0, 1, abs(i), 2, false), 2);
        }
        due("no seventh", x.mount(0, 1, abs(7), 2, false), FULL);
        due("no seventh", x.bind(0, abs(1), abs(7), 0, false), FULL);
        seenIs(x, 0, abs(7), 9);
        for (int i = 1; i <= 6; i++) {
            seenIs(x, 0, abs(i), 2 + i, 1);
        }
        due("one that is covered already", x.mount(0, 2, abs(6), 1, false), 3);
        due("one less", x.unmount(0, NONE, abs(1)), 0);
        due("a sixth again", x.mount(0, 1, abs(7), 2, false), 2);
        due("no seventh again", x.mount(0, 1, abs(1), 2, false), FULL);
        due("each space has its own six", x.fork(0, 2, false), 1);
        for (int i = 1; i <= 6; i++) {
            due("cover " + i, x.mount(1, 2, abs(i), 0, false), 1);
        }
        due("no seventh", x.mount(1, 2, abs(7), 0, false), FULL);
        seenIs(x, 0, abs(7), 9, 1);
    }

    private static void members1To5() {
        part = "each by a list of 1 to 5 MEMBERS";
        BoundTrees x = row(2);
        due("one", x.mount(0, 1, abs(1), 0, false), 1);
        seenIs(x, 0, abs(1), 1);
        for (int count = 2; count <= 5; count++) {
            due("one more", x.mount(0, 2, abs(1), 2, false), count);
        }
        due("no sixth", x.mount(0, 2, abs(1), 2, false), FULL);
        due("no sixth", x.mount(0, 2, abs(1), 1, false), FULL);
        seenIs(x, 0, abs(1), 1, 2, 2, 2, 2);
        due("five at once", x.bind(0, abs(1), abs(2), 0, false), 5);
        seenIs(x, 0, abs(2), 1, 2, 2, 2, 2);
        due("five are open", x.open(0, abs(2)), 0);
        readIs(x, 0, 0, END);
        due("replaced by one", x.mount(0, 0, abs(2), 0, false), 1);
        seenIs(x, 0, abs(2), 0);
        due("its last goes", x.unmount(0, ROOT, abs(2)), 0);
        due("a list of none covers nothing", x.unmount(0, NONE, abs(2)), NOT_BOUND);
        seenIs(x, 0, abs(2), 4);
    }

    private static void membersWithOrWithoutCreate() {
        part = "nodes, each with or without CREATE";
        BoundTrees x = row(3);
        due("without", x.bind(0, abs(1), abs(3), 0, false), 1);
        due("none is with", x.create(0, abs(3, 1), true), NO_CREATE);
        due("behind it the same with", x.bind(0, abs(1), abs(3), 2, true), 2);
        due("another before without", x.bind(0, abs(2), abs(3), 1, false), 3);
        seenIs(x, 0, abs(3), 4, 3, 3);
        due("in the one with", x.create(0, abs(3, 1), true), 6);
        due("parent", x.about(6, PARENT), 3);
        due("before them all with", x.bind(0, abs(2), abs(3), 1, true), 4);
        due("in the first with", x.create(0, abs(3, 2), true), 7);
        due("parent", x.about(7, PARENT), 4);
    }

    private static void seenAtANode() {
        part = "What is SEEN at a node is its members in their order if it is covered, else itself alone";
        BoundTrees x = row(3);
        seenIs(x, 0, abs(3), 5);
        due("cover", x.bind(0, abs(2), abs(3), 0, false), 1);
        seenIs(x, 0, abs(3), 4);
        due("more", x.bind(0, abs(1), abs(3), 2, false), 2);
        seenIs(x, 0, abs(3), 4, 3);
        due("a member's own cover", x.mount(0, 2, abs(2), 0, false), 1);
        seenIs(x, 0, abs(3), 4, 3);
        seenIs(x, 0, abs(2), 2);
        due("none is left", x.unmount(0, NONE, abs(3)), 0);
        seenIs(x, 0, abs(3), 5);
    }

    // Trails and holding

    private static void trailOf1To7() {
        part = "A TRAIL is a row of 1 to 7 nodes, the first of which is node 0";
        BoundTrees x = chain();
        due("seven", x.dot(0), abs(1, 1, 1, 1, 1, 1));
        due("a name below", x.create(0, from(2), true), 9);
        due("no eighth", x.place(0, from(2)), TOO_DEEP);
        due("no eighth", x.chdir(0, from(2)), TOO_DEEP);
        due("no eighth", x.open(0, from(2)), TOO_DEEP);
        due("six, and a name", x.create(0, from(BACK, 2), true), 10);
        due("is seven", x.place(0, from(BACK, 2)), 10);
        due("seven from the root", x.place(0, abs(1, 1, 1, 1, 1, 2)), 10);
        due("down to one", x.chdir(0, backs(6)), 0);
        due("one", x.dot(0), ROOT);
        due("no fewer", x.chdir(0, BACK), 0);
        due("one", x.dot(0), ROOT);
        due("and down again", x.place(0, from(1, 1, 1, 1, 1, 1)), 8);
    }

    private static void trailBeginsWithNode0() {
        part = "the first of which is node 0, whatever is bound over it";
        BoundTrees x = row(1);
        due("bind over the root", x.bind(0, abs(1), ROOT, 0, true), 1);
        due("make in 3", x.create(0, abs(1), true), 4);
        due("the root's place", x.place(0, ROOT), 0);
        due("chdir", x.chdir(0, abs(1)), 4);
        due("back", x.place(0, BACK), 0);
        due("twice", x.place(0, from(BACK, BACK, 1)), 4);
    }

    private static void heldInADot() {
        part = "A node is HELD if it is in a DOT";
        BoundTrees x = chain();
        for (int i = 0; i < 6; i++) {
            due("remove", x.remove(0, backs(i)), 8 - i);
            due("held", x.state(8 - i), GONE);
        }
        statesAre(x, 3, 8, GONE);
        due("no way to a GONE one", x.chdir(0, BACK), NOT_FOUND);
        statesAre(x, 3, 8, GONE);
        due("leave", x.chdir(0, ROOT), 0);
        statesAre(x, 3, 8, FREE);
    }

    private static void heldInTheDotOfAnyProcess() {
        part = "A node is HELD if it is in a DOT, that of any process";
        BoundTrees x = chain();
        for (int p = 1; p <= 3; p++) {
            due("fork", x.fork(0, 1, false), p);
        }
        due("3 goes up", x.chdir(3, backs(3)), 5);
        due("1 leaves", x.chdir(1, ROOT), 0);
        due("2 leaves", x.chdir(2, ROOT), 0);
        for (int i = 0; i < 6; i++) {
            due("remove", x.remove(0, backs(i)), 8 - i);
        }
        statesAre(x, 3, 8, GONE);
        due("0 leaves", x.chdir(0, ROOT), 0);
        statesAre(x, 6, 8, FREE);
        statesAre(x, 3, 5, GONE);
        due("the least that is free", x.create(0, abs(1), true), 6);
        due("3 ends", x.exit(3), 3);
        statesAre(x, 3, 5, FREE);
        due("the least that is free", x.create(0, abs(2), true), 3);
    }

    private static void heldInADescriptor() {
        part = "in a descriptor that is open (see open())";
        BoundTrees x = unionOfFive();
        for (int d = 0; d < 4; d++) {
            due("open", x.open(0, abs(6)), d);
        }
        for (int p = 1; p <= 3; p++) {
            due("fork", x.fork(0, 2, false), p);
        }
        due("exit", x.exit(1), 3);
        due("exit", x.exit(2), 2);
        due("unmount", x.unmount(0, NONE, abs(6)), 0);
        for (int d = 0; d < 4; d++) {
            due("close", x.close(0, d), true);
        }
        for (int i = 1; i <= 5; i++) {
            due("remove", x.remove(0, abs(i)), 2 + i);
        }
        due("the place is not in it", x.remove(0, abs(6)), 8);
        due("so it is free", x.state(8), FREE);
        for (int d = 0; d < 3; d++) {
            due("close", x.close(3, d), true);
            statesAre(x, 3, 7, GONE);
        }
        due("close the last", x.close(3, 3), true);
        statesAre(x, 3, 7, FREE);
    }

    private static void heldAsCovered() {
        part = "covered in a space of some process";
        BoundTrees x = row(6);
        for (int p = 1; p <= 3; p++) {
            due("fork", x.fork(0, 2, true), p);
        }
        for (int i = 1; i <= 6; i++) {
            due("cover", x.mount(3, 1, abs(i), 0, true), 1);
        }
        for (int i = 1; i <= 6; i++) {
            due("remove", x.remove(0, abs(i)), 2 + i);
        }
        statesAre(x, 3, 8, GONE);
        due("another's end", x.exit(0), 3);
        due("another's end", x.exit(1), 2);
        statesAre(x, 3, 8, GONE);
        due("the end of the one that has the space", x.exit(3), 1);
        statesAre(x, 3, 8, FREE);
    }

    private static void heldAsAMember() {
        part = "or a member in a space of some process";
        BoundTrees x = unionOfFive();
        for (int i = 1; i <= 5; i++) {
            due("remove", x.remove(0, abs(i)), 2 + i);
        }
        statesAre(x, 3, 7, GONE);
        due("its copy", x.fork(0, 1, true), 1);
        due("let go in one", x.unmount(0, NONE, abs(6)), 0);
        statesAre(x, 3, 7, GONE);
        seenIs(x, 1, abs(6), 3, 4, 5, 6, 7);
        due("let go in the other", x.unmount(1, NONE, abs(6)), 0);
        statesAre(x, 3, 7, FREE);
        due("the one that was covered", x.state(8), THERE);
    }

    private static void heldTwice() {
        part = "HELD as long as one holds it";
        BoundTrees x = row(2);
        due("in a dot", x.chdir(0, abs(1)), 3);
        due("in a descriptor", x.open(0, HERE), 0);
        due("as a member", x.bind(0, HERE, abs(2), 0, false), 1);
        due("remove", x.remove(0, HERE), 3);
        due("leave", x.chdir(0, ROOT), 0);
        due("held still", x.state(3), GONE);
        due("close", x.close(0, 0), true);
        due("held still", x.state(3), GONE);
        due("by another descriptor", x.open(0, abs(2)), 0);
        due("replaced", x.mount(0, 1, abs(2), 0, false), 1);
        due("held still", x.state(3), GONE);
        due("a copy of the descriptors", x.fork(0, 2, false), 1);
        due("close", x.close(0, 0), true);
        due("held still", x.state(3), GONE);
        due("close", x.close(1, 0), true);
        due("held no more", x.state(3), FREE);
    }

    private static void heldBySharing() {
        part = "HELD by what two processes share";
        BoundTrees x = row(2);
        due("open", x.open(0, abs(1)), 0);
        due("member", x.bind(0, abs(2), ROOT, 2, false), 2);
        due("the same space, the same descriptors", x.fork(0, 0, true), 1);
        due("remove", x.remove(0, abs(1)), 3);
        due("remove", x.remove(0, abs(2)), 4);
        due("exit of one", x.exit(0), 1);
        statesAre(x, 3, 4, GONE);
        due("nothing of them goes over", x.fork(1, 2, false), 0);
        due("close", x.close(0, 0), true);
        due("exit of the other", x.exit(1), 1);
        statesAre(x, 3, 4, FREE);
    }

    private static void goneKeepsWhatItHeld() {
        part = "A node that is GONE (it has no children, and what it held and its version stay)";
        BoundTrees x = row(1);
        due("make", x.create(0, abs(1, 7), false), 4);
        due("open", x.open(0, abs(1, 7)), 0);
        due("write", x.write(0, 0, 41), 1);
        due("write", x.write(0, 0, 42), 2);
        due("remove", x.remove(0, abs(1, 7)), 4);
        due("its ints", x.about(4, INTS), 2);
        due("its version", x.about(4, VERSION), 2);
        due("its name", x.about(4, NAME), 7);
        due("its parent", x.about(4, PARENT), 3);
        due("anew", x.seek(0, 0, 0), true);
        readIs(x, 0, 0, 41, 42, END);
        due("open the directory", x.open(0, abs(1)), 1);
        due("the directory goes", x.remove(0, abs(1)), 3);
        due("its children", x.about(3, CHILDREN), 0);
        due("its version", x.about(3, VERSION), 2);
        due("it is no child", x.about(0, CHILDREN), 0);
        readIs(x, 0, 1, END);
    }

    private static void freeAsSoonAsNotHeld() {
        part = "is FREE as soon as it is not held";
        BoundTrees x = row(3);
        due("not held at all", x.remove(0, abs(1)), 3);
        due("free", x.state(3), FREE);
        due("a member", x.bind(0, abs(2), abs(3), 0, true), 1);
        due("remove", x.remove(0, abs(2)), 4);
        due("replaced by bind", x.bind(0, ROOT, abs(3), 0, true), 1);
        due("free", x.state(4), FREE);
        due("the least", x.create(0, abs(1), true), 3);
        due("the next", x.create(0, abs(2), true), 4);
        due("a member", x.bind(0, abs(2), abs(3), 0, true), 1);
        due("remove", x.remove(0, abs(2)), 4);
        due("more members", x.mount(0, 1, abs(3), 1, true), 2);
        due("more members", x.bind(0, ROOT, abs(3), 2, true), 3);
        due("held", x.state(4), GONE);
        due("replaced by mount", x.mount(0, 1, abs(3), 0, true), 1);
        due("free", x.state(4), FREE);
    }

    // Paths

    private static void pathOf0To6() {
        part = "a row of 0 to 6 ELEMENTS";
        BoundTrees x = chain();
        due("none, from the root", x.place(0, -1), 0);
        due("none, from DOT", x.place(0, 0), 8);
        due("one, from the root", x.place(0, -2), 3);
        due("one, from DOT", x.place(0, 10), 7);
        due("six, from the root", x.place(0, abs(1, 1, 1, 1, 1, 1)), 8);
        due("six backs, from DOT", x.place(0, SEVEN_DIGITS - 1), 0);
        due("six backs, from the root", x.place(0, -SEVEN_DIGITS), 0);
        due("five backs, from DOT", x.place(0, backs(5)), 3);
        due("seven, from DOT", x.place(0, SEVEN_DIGITS), REFUSED);
        due("seven, from the root", x.place(0, -SEVEN_DIGITS - 1), REFUSED);
        due("seven names", x.place(0, from(1, 1, 1, 1, 1, 1, 1)), REFUSED);
        due("seven names", x.place(0, abs(1, 1, 1, 1, 1, 1, 1)), REFUSED);
        due("seven with back", x.place(0, abs(1, BACK, 1, BACK, 1, BACK, 1)), REFUSED);
        due("eight names", x.place(0, from(1, 1, 1, 1, 1, 1, 1, 1)), REFUSED);
        due("nine names", x.place(0, abs(1, 1, 1, 1, 1, 1, 1, 1, 1)), REFUSED);
        due("the greatest", x.place(0, GREATEST), REFUSED);
        due("the least", x.place(0, LEAST), REFUSED);
        due("NONE", x.place(0, NONE), REFUSED);
    }

    private static void highestFirst() {
        part = "the digits of c to the base 11, the highest first";
        BoundTrees x = row(2);
        due("make", x.create(0, -1 - (1 * 11 + 2), true), 5);
        due("make", x.create(0, -1 - (2 * 11 + 1), true), 6);
        due("1 and then 2", x.about(5, PARENT), 3);
        due("1 and then 2", x.about(5, NAME), 2);
        due("2 and then 1", x.about(6, PARENT), 4);
        due("2 and then 1", x.about(6, NAME), 1);
        due("from DOT, too", x.place(0, 1 * 11 + 2), 5);
        due("from DOT, too", x.place(0, 2 * 11 + 1), 6);
        due("three", x.create(0, 2 * 121 + 1 * 11 + 9, true), 7);
        due("parent", x.about(7, PARENT), 6);
    }

    private static void fromDotOrFromTheRoot() {
        part = "a path c of 0 or more .. from DOT; below 0 .. from the root";
        BoundTrees x = row(2);
        due("make", x.create(0, abs(1, 2), true), 5);
        due("chdir", x.chdir(0, abs(1)), 3);
        due("0", x.place(0, 0), 3);
        due("-1", x.place(0, -1), 0);
        due("2 from DOT", x.place(0, 2), 5);
        due("2 from the root", x.place(0, -3), 4);
        due("1 from DOT", x.place(0, 1), NOT_FOUND);
        due("1 from the root", x.place(0, -2), 3);
        due("make from DOT", x.create(0, 3, true), 6);
        due("parent", x.about(6, PARENT), 3);
        due("make from the root", x.create(0, -4, true), 7);
        due("parent", x.about(7, PARENT), 0);
    }

    private static void zeroIsNoElement() {
        part = "0 is no element: with one among the digits it is no path";
        BoundTrees x = chain();
        for (int zero = 1; zero < 6; zero++) {
            int[] elements = {1, 1, 1, 1, 1, 1};
            elements[zero] = 0;
            due("0 at " + zero + " from the root", x.place(0, abs(elements)), REFUSED);
            due("0 at " + zero + " from DOT", x.place(0, from(elements)), REFUSED);
            elements[zero] = BACK;
            due("back at " + zero, x.place(0, abs(elements)), 6);
        }
        due("11", x.place(0, 11), REFUSED);
        due("-12", x.place(0, -12), REFUSED);
        due("10", x.place(0, 10), 7);
        due("12", x.place(0, 12), NOT_FOUND);
        due("-11", x.place(0, -11), 0);
        due("-13", x.place(0, -13), 4);
        due("121", x.place(0, 121), REFUSED);
        due("120", x.place(0, 120), 6);
        due("a 0 behind a name that is not there", x.place(0, abs(9, 0)), REFUSED);
    }

    // Evaluation

    private static void backUnlessTheOnlyOne() {
        part = "Back takes the last node of the trail away, unless it is the only one";
        BoundTrees x = row(2);
        due("make", x.create(0, abs(1, 1), false), 5);
        due("of three", x.place(0, abs(1, 1, BACK)), 3);
        due("of two", x.place(0, abs(1, BACK)), 0);
        due("of one", x.place(0, abs(BACK)), 0);
        due("of one, twice", x.place(0, abs(BACK, BACK, 2)), 4);
        due("and on", x.place(0, abs(1, BACK, BACK, 2)), 4);
        due("from DOT", x.chdir(0, abs(1)), 3);
        due("of two", x.place(0, from(BACK)), 0);
        due("of one", x.place(0, from(BACK, BACK)), 0);
        due("and on", x.place(0, from(BACK, BACK, 2)), 4);
        due("DOT is not changed by it", x.dot(0), abs(1));
    }

    private static void backGoesByTheTrail() {
        part = "Back takes the last node of the trail away, not to the parent";
        BoundTrees x = row(2);
        due("make", x.create(0, abs(2, 5), true), 5);
        due("bind", x.bind(0, abs(2), abs(1), 0, false), 1);
        due("5 by way of 1", x.place(0, abs(1, 5)), 5);
        due("back is 3, no parent of it", x.place(0, abs(1, 5, BACK)), 3);
        due("parent", x.about(5, PARENT), 4);
    }

    private static void nameAtAFile() {
        part = "A name, at the last node: NOT_DIRECTORY if that is a file";
        BoundTrees x = row(1);
        due("make", x.create(0, abs(2), false), 4);
        due("make", x.create(0, abs(3), false), 5);
        due("a name", x.place(0, abs(2, 1)), NOT_DIRECTORY);
        due("two names", x.place(0, abs(2, 1, 1)), NOT_DIRECTORY);
        due("back is no name", x.place(0, abs(2, BACK, 1)), 3);
        due("a name and back", x.place(0, abs(2, 1, BACK)), NOT_DIRECTORY);
        due("nothing more", x.place(0, abs(2)), 4);
        due("a file over it", x.bind(0, abs(3), abs(2), 0, false), 1);
        due("a covered file", x.place(0, abs(2, 1)), NOT_DIRECTORY);
        due("a directory", x.place(0, abs(1, 1)), NOT_FOUND);
    }

    private static void lookedForInOrder() {
        part = "else it is looked for among the children of the nodes SEEN there, in their order";
        BoundTrees x = row(3);
        due("9 in the first", x.create(0, abs(1, 9), false), 6);
        due("9 in the second", x.create(0, abs(2, 9), false), 7);
        due("8 in the second", x.create(0, abs(2, 8), false), 8);
        due("7 in the third", x.create(0, abs(3, 7), false), 9);
        due("cover", x.bind(0, abs(1), abs(3), 0, false), 1);
        due("its own children are not looked at", x.place(0, abs(3, 7)), NOT_FOUND);
        due("cover", x.bind(0, abs(2), abs(3), 2, false), 2);
        due("the first one found", x.place(0, abs(3, 9)), 6);
        due("only in the second", x.place(0, abs(3, 8)), 8);
        due("turned round", x.bind(0, abs(2), abs(3), 1, false), 3);
        due("the first one found", x.place(0, abs(3, 9)), 7);
        due("a child of the last", x.mount(0, 0, abs(3), 2, false), 4);
        due("by its name", x.place(0, abs(3, 3)), 5);
        due("what covers a member is not looked at", x.mount(0, 1, abs(2), 0, false), 1);
        due("as before", x.place(0, abs(3, 9)), 7);
        due("but there", x.place(0, abs(2, 9)), NOT_FOUND);
    }

    private static void notFoundThenTooDeep() {
        part = "NOT_FOUND if none has it; TOO_DEEP if the trail has 7 nodes";
        BoundTrees x = chain();
        due("none has it", x.place(0, from(1)), NOT_FOUND);
        due("make one", x.create(0, from(1), false), 9);
        due("the trail has 7", x.place(0, from(1)), TOO_DEEP);
        due("none has it", x.place(0, from(2)), NOT_FOUND);
        due("the trail has 7, with back behind", x.place(0, from(1, BACK)), TOO_DEEP);
        due("the trail has 7, with another name behind", x.place(0, from(1, 1)), TOO_DEEP);
        due("the trail had 7", x.place(0, from(BACK, 1)), 8);
        due("7 again", x.place(0, from(BACK, 1, 1)), TOO_DEEP);
        due("a file", x.create(0, from(BACK, 2), false), 10);
        due("NOT_DIRECTORY before TOO_DEEP", x.place(0, from(BACK, 2, 1)), NOT_DIRECTORY);
        due("six of them", x.chdir(0, BACK), 7);
        due("and one", x.place(0, from(1)), 8);
        due("and two", x.place(0, from(1, 1)), TOO_DEEP);
    }

    private static void goneAtLast() {
        part = "At last NOT_FOUND if the last node is GONE";
        BoundTrees x = chain();
        due("bind over 8", x.mount(0, 0, HERE, 0, true), 1);
        due("8 is GONE", x.remove(0, HERE), 8);
        due("7 is GONE", x.remove(0, BACK), 7);
        due("6 is THERE", x.place(0, backs(2)), 6);
        due("the last, GONE", x.place(0, HERE), NOT_FOUND);
        due("the one before, GONE", x.place(0, BACK), NOT_FOUND);
        due("GONE in between", x.place(0, from(BACK, BACK)), 6);
        due("a name that what is SEEN at a GONE one has", x.place(0, from(1)), TOO_DEEP);
        due("not covered: it has no children", x.place(0, from(BACK, 1)), NOT_FOUND);
        due("back is seen to before", x.place(0, from(BACK, BACK, BACK)), 5);
    }

    private static void goneInBetween() {
        part = "At last NOT_FOUND, not if a node before it is GONE";
        BoundTrees x = row(2);
        due("make", x.create(0, abs(1, 1), true), 5);
        due("chdir", x.chdir(0, abs(2)), 4);
        due("cover", x.bind(0, abs(1), HERE, 0, true), 1);
        due("GONE", x.remove(0, HERE), 4);
        due("by way of the GONE one", x.place(0, from(1)), 5);
        due("chdir by way of it", x.chdir(0, from(1)), 5);
        due("dot", x.dot(0), abs(2, 1));
        due("the GONE one is in DOT", x.place(0, BACK), NOT_FOUND);
        due("and held", x.state(4), GONE);
        due("by the root it is not found", x.place(0, abs(2, 1)), NOT_FOUND);
        due("by the root it is not found", x.place(0, abs(2)), NOT_FOUND);
    }

    private static void placeIsTheLastNode() {
        part = "The PLACE of the path is the last node";
        BoundTrees x = row(2);
        due("cover", x.bind(0, abs(2), abs(1), 0, false), 1);
        due("not its member", x.place(0, abs(1)), 3);
        due("cover the root", x.mount(0, 2, ROOT, 1, false), 2);
        due("not its member", x.place(0, ROOT), 0);
    }

    private static void objectsAreApart() {
        part = "an object's state is its own";
        BoundTrees x = row(2);
        BoundTrees y = new BoundTrees();
        due("nothing of x", y.state(3), FREE);
        due("make", y.create(0, abs(9), false), 3);
        due("x has it not", x.place(0, abs(9)), NOT_FOUND);
        due("open", y.open(0, abs(9)), 0);
        due("x has it not", x.read(0, 0), CLOSED);
        due("cover", x.mount(0, 1, ROOT, 0, true), 1);
        seenIs(y, 0, ROOT, 0);
    }

    /** 512 calls in all: what the last one answers is promised still. */
    private static void calls512() {
        part = "An object is used for at most 512 calls";
        BoundTrees x = new BoundTrees();
        due("1", x.open(0, ROOT), 0);
        for (int i = 1; i <= 170; i++) {
            due("make", x.create(0, abs(1 + i % 9), true), 3);
            due("read", x.read(0, 0), 3);
            due("remove", x.remove(0, abs(1 + i % 9)), 3);
        }
        due("512", x.about(0, VERSION), 340);
    }

    public static void main(String[] args) {
        nodes0To47();
        lastNodeHoldsInts();
        rootsAreAlwaysThere();
        stateIsFreeThereOrGone();
        names1To9();
        parentIsThere();
        oneChildOfAName();
        upTo6Ints();
        versionIs0();
        fileVersion();
        directoryVersion();
        processes0To3();
        descriptors0To3();
        allDescriptorsOfAll();
        upTo6Covered();
        members1To5();
        allMembersOfAll();
        membersWithOrWithoutCreate();
        seenAtANode();
        trailOf1To7();
        trailBeginsWithNode0();
        heldInADot();
        heldInTheDotOfAnyProcess();
        heldInADescriptor();
        heldAsCovered();
        heldAsAMember();
        heldTwice();
        heldBySharing();
        goneKeepsWhatItHeld();
        freeAsSoonAsNotHeld();
        pathOf0To6();
        highestFirst();
        fromDotOrFromTheRoot();
        zeroIsNoElement();
        backUnlessTheOnlyOne();
        backGoesByTheTrail();
        nameAtAFile();
        lookedForInOrder();
        notFoundThenTooDeep();
        goneAtLast();
        goneInBetween();
        placeIsTheLastNode();
        objectsAreApart();
        calls512();
        System.out.println(checks + " checks, " + wrong + " wrong");
        if (wrong != 0) {
            System.exit(1);
        }
    }
}
