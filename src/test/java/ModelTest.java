import java.util.ArrayList;
import java.util.HashMap;
import java.util.HashSet;
import java.util.List;
import java.util.Map;
import java.util.Set;

/** Long runs of calls, the same ones each time, against a second and plainer model of the document. */
public final class ModelTest {
    private static final int REFUSED = -1, NOT_FOUND = -2, NOT_DIRECTORY = -3, TOO_DEEP = -4, EXISTS = -5;
    private static final int FULL = -6, KIND = -7, NO_CREATE = -8, NOT_EMPTY = -9, NOT_BOUND = -10;
    private static final int NONE = 1 << 30;
    private static final long END = 1L << 40, CLOSED = -(1L << 40);
    /** An object is used for 512 calls: the last of them ask about each node. */
    private static final int RUNS = 3000, CALLS = 512, LAST_CALLS = 50 + 2 * 48;

    /** An answer that stands in place of a node. */
    private static final class Refusal extends Exception {
        private static final long serialVersionUID = 1L;
        final int answer;

        Refusal(int answer) {
            super(null, null, false, false);
            this.answer = answer;
        }
    }

    private static final class Node {
        final int number, name;
        final boolean directory;
        final Node parent;
        boolean gone = false;
        int version = 0;
        final List<Integer> ints = new ArrayList<>();
        final List<Node> children = new ArrayList<>();
        /** All that were ever made in it, so that a reading can be a mere index. */
        final List<Node> everMade = new ArrayList<>();

        Node(int number, int name, boolean directory, Node parent) {
            this.number = number;
            this.name = name;
            this.directory = directory;
            this.parent = parent;
        }
    }

    private static final class Member {
        final Node node;
        final boolean create;

        Member(Node node, boolean create) {
            this.node = node;
            this.create = create;
        }
    }

    private static final class Descriptor {
        List<Node> nodes = new ArrayList<>();
        int at = 0, position = 0;

        Descriptor copy() {
            Descriptor d = new Descriptor();
            d.nodes = nodes;
            d.at = at;
            d.position = position;
            return d;
        }
    }

    private static final class Process {
        Map<Node, List<Member>> space = new HashMap<>();
        Map<Integer, Descriptor> table = new HashMap<>();
        List<Node> dot = new ArrayList<>();
    }

    private static final class Model {
        final Node[] nodes = new Node[48];
        final Process[] processes = new Process[4];

        Model() {
            for (int i = 0; i < 3; i++) {
                nodes[i] = new Node(i, 0, true, null);
            }
            processes[0] = new Process();
            processes[0].dot.add(nodes[0]);
        }

        Process process(int p) throws Refusal {
            if (p < 0 || p > 3 || processes[p] == null) {
                throw new Refusal(REFUSED);
            }
            return processes[p];
        }

        static List<Integer> elements(int path) throws Refusal {
            List<Integer> row = new ArrayList<>();
            long rest = path < 0 ? -1L - path : path;
            for (; rest > 0; rest /= 11) {
                row.add(0, (int) (rest % 11));
            }
            if (row.size() > 6 || row.contains(0)) {
                throw new Refusal(REFUSED);
            }
            return row;
        }

        static List<Node> seenAt(Process q, Node node) {
            List<Node> all = new ArrayList<>();
            if (q.space.containsKey(node)) {
                for (Member m : q.space.get(node)) {
                    all.add(m.node);
                }
            } else {
                all.add(node);
            }
            return all;
        }

        static Node find(Process q, Node node, int name) {
            for (Node directory : seenAt(q, node)) {
                for (Node child : directory.children) {
                    if (child.name == name) {
                        return child;
                    }
                }
            }
            return null;
        }

        List<Node> trail(Process q, boolean root, List<Integer> elements) throws Refusal {
            List<Node> trail = new ArrayList<>(root ? List.of(nodes[0]) : q.dot);
            for (int e : elements) {
                Node last = trail.get(trail.size() - 1);
                if (e == 10) {
                    if (trail.size() > 1) {
                        trail.remove(trail.size() - 1);
                    }
                    continue;
                }
                if (!last.directory) {
                    throw new Refusal(NOT_DIRECTORY);
                }
                Node found = find(q, last, e);
                if (found == null) {
                    throw new Refusal(NOT_FOUND);
                }
                if (trail.size() == 7) {
                    throw new Refusal(TOO_DEEP);
                }
                trail.add(found);
            }
            if (trail.get(trail.size() - 1).gone) {
                throw new Refusal(NOT_FOUND);
            }
            return trail;
        }

        Node at(Process q, int path) throws Refusal {
            List<Node> trail = trail(q, path < 0, elements(path));
            return trail.get(trail.size() - 1);
        }

        void sweep() {
            Set<Node> held = new HashSet<>();
            for (Process q : processes) {
                if (q != null) {
                    held.addAll(q.dot);
                    for (Map.Entry<Node, List<Member>> e : q.space.entrySet()) {
                        held.add(e.getKey());
                        for (Member m : e.getValue()) {
                            held.add(m.node);
                        }
                    }
                    for (Descriptor d : q.table.values()) {
                        held.addAll(d.nodes);
                    }
                }
            }
            for (int i = 3; i < 48; i++) {
                if (nodes[i] != null && nodes[i].gone && !held.contains(nodes[i])) {
                    nodes[i] = null;
                }
            }
        }

        int place(int p, int path) throws Refusal {
            return at(process(p), path).number;
        }

        int seen(int p, int path, int k) throws Refusal {
            Process q = process(p);
            List<Node> all = seenAt(q, at(q, path));
            return k >= 0 && k < all.size() ? all.get(k).number : NONE;
        }

        int fork(int p, int space, boolean shared) throws Refusal {
            Process q = process(p);
            if (space < 0 || space > 2) {
                return REFUSED;
            }
            for (int i = 0; i < 4; i++) {
                if (processes[i] == null) {
                    Process child = new Process();
                    child.dot.addAll(q.dot);
                    if (space == 0) {
                        child.space = q.space;
                    }
                    if (space == 1) {
                        for (Map.Entry<Node, List<Member>> e : q.space.entrySet()) {
                            child.space.put(e.getKey(), new ArrayList<>(e.getValue()));
                        }
                    }
                    if (shared) {
                        child.table = q.table;
                    } else {
                        for (Map.Entry<Integer, Descriptor> e : q.table.entrySet()) {
                            child.table.put(e.getKey(), e.getValue().copy());
                        }
                    }
                    processes[i] = child;
                    return i;
                }
            }
            return FULL;
        }

        int exit(int p) throws Refusal {
            process(p);
            int left = 0;
            for (int i = 0; i < 4; i++) {
                left += i != p && processes[i] != null ? 1 : 0;
            }
            if (left == 0) {
                return REFUSED;
            }
            processes[p] = null;
            return left;
        }

        int chdir(int p, int path) throws Refusal {
            Process q = process(p);
            List<Node> trail = trail(q, path < 0, elements(path));
            Node last = trail.get(trail.size() - 1);
            if (!last.directory) {
                return NOT_DIRECTORY;
            }
            q.dot = trail;
            return last.number;
        }

        int dot(int p) throws Refusal {
            int row = 0;
            for (Node node : process(p).dot) {
                row = row * 11 + node.name;
            }
            return -1 - row;
        }

        int cover(Process q, List<Node> news, Node old, int order, boolean create) {
            List<Member> list = new ArrayList<>();
            if (order != 0) {
                list.addAll(q.space.getOrDefault(old, List.of(new Member(old, false))));
            }
            int at = order == 2 ? list.size() : 0;
            for (Node node : news) {
                list.add(at++, new Member(node, create));
            }
            if (list.size() > 5 || (!q.space.containsKey(old) && q.space.size() == 6)) {
                return FULL;
            }
            q.space.put(old, list);
            return list.size();
        }

        int bind(int p, int fresh, int old, int order, boolean create) throws Refusal {
            Process q = process(p);
            elements(fresh);
            elements(old);
            if (order < 0 || order > 2) {
                return REFUSED;
            }
            Node from = at(q, fresh);
            Node over = at(q, old);
            if (from.directory != over.directory || (!from.directory && order != 0)) {
                return KIND;
            }
            return cover(q, seenAt(q, from), over, order, create);
        }

        int mount(int p, int tree, int old, int order, boolean create) throws Refusal {
            Process q = process(p);
            elements(old);
            if (order < 0 || order > 2 || tree < 0 || tree > 2) {
                return REFUSED;
            }
            Node over = at(q, old);
            return over.directory ? cover(q, List.of(nodes[tree]), over, order, create) : KIND;
        }

        int unmount(int p, int fresh, int old) throws Refusal {
            Process q = process(p);
            if (fresh != NONE) {
                elements(fresh);
            }
            elements(old);
            Node from = fresh == NONE ? null : at(q, fresh);
            Node over = at(q, old);
            List<Member> list = q.space.get(over);
            if (list == null) {
                return NOT_BOUND;
            }
            if (from == null) {
                q.space.remove(over);
                return 0;
            }
            for (Member m : list) {
                if (m.node == from) {
                    list.remove(m);
                    if (list.isEmpty()) {
                        q.space.remove(over);
                    }
                    return list.size();
                }
            }
            return NOT_BOUND;
        }

        int create(int p, int path, boolean directory) throws Refusal {
            Process q = process(p);
            List<Integer> row = elements(path);
            if (row.isEmpty() || row.get(row.size() - 1) == 10) {
                return REFUSED;
            }
            int name = row.remove(row.size() - 1);
            List<Node> trail = trail(q, path < 0, row);
            Node last = trail.get(trail.size() - 1);
            if (!last.directory) {
                return NOT_DIRECTORY;
            }
            if (find(q, last, name) != null) {
                return EXISTS;
            }
            Node parent = q.space.containsKey(last) ? null : last;
            for (Member m : q.space.getOrDefault(last, List.of())) {
                if (parent == null && m.create) {
                    parent = m.node;
                }
            }
            if (parent == null) {
                return NO_CREATE;
            }
            if (parent.gone) {
                return NOT_FOUND;
            }
            for (int i = 3; i < 48; i++) {
                if (nodes[i] == null) {
                    nodes[i] = new Node(i, name, directory, parent);
                    parent.children.add(nodes[i]);
                    parent.everMade.add(nodes[i]);
                    parent.version++;
                    return i;
                }
            }
            return FULL;
        }

        int remove(int p, int path) throws Refusal {
            Node node = at(process(p), path);
            if (node.parent == null) {
                return KIND;
            }
            if (!node.children.isEmpty()) {
                return NOT_EMPTY;
            }
            node.gone = true;
            node.parent.children.remove(node);
            node.parent.version++;
            return node.number;
        }

        int open(int p, int path) throws Refusal {
            Process q = process(p);
            Node node = at(q, path);
            for (int d = 0; d < 4; d++) {
                if (!q.table.containsKey(d)) {
                    Descriptor made = new Descriptor();
                    made.nodes = seenAt(q, node);
                    q.table.put(d, made);
                    return d;
                }
            }
            return FULL;
        }

        Descriptor descriptor(int p, int d) {
            return p < 0 || p > 3 || processes[p] == null ? null : processes[p].table.get(d);
        }

        long read(int p, int d) {
            Descriptor q = descriptor(p, d);
            if (q == null) {
                return CLOSED;
            }
            Node first = q.nodes.get(0);
            if (!first.directory) {
                return q.position < first.ints.size() ? first.ints.get(q.position++) : END;
            }
            for (;;) {
                List<Node> made = q.nodes.get(q.at).everMade;
                while (q.position < made.size()) {
                    Node child = made.get(q.position++);
                    if (!child.gone) {
                        return child.number;
                    }
                }
                if (q.at == q.nodes.size() - 1) {
                    return END;
                }
                q.at++;
                q.position = 0;
            }
        }

        int write(int p, int d, int v) {
            Descriptor q = descriptor(p, d);
            if (q == null || q.nodes.get(0).directory) {
                return REFUSED;
            }
            if (q.position == 6) {
                return FULL;
            }
            Node file = q.nodes.get(0);
            if (q.position < file.ints.size()) {
                file.ints.set(q.position, v);
            } else {
                file.ints.add(v);
            }
            file.version++;
            return ++q.position;
        }

        long seek(int p, int d, int k) {
            Descriptor q = descriptor(p, d);
            if (q == null || k < 0 || k > q.nodes.get(0).ints.size()) {
                return 0;
            }
            q.at = 0;
            q.position = k;
            return 1;
        }

        long close(int p, int d) {
            return descriptor(p, d) == null ? 0 : processes[p].table.remove(d) == null ? 0 : 1;
        }

        int state(int node) {
            return node < 0 || node > 47 ? REFUSED : nodes[node] == null ? 0 : nodes[node].gone ? 2 : 1;
        }

        int about(int node, int what) {
            if (state(node) <= 0) {
                return REFUSED;
            }
            Node n = nodes[node];
            switch (what) {
                case 0: return n.version;
                case 1: return n.ints.size();
                case 2: return n.children.size();
                case 3: return n.name;
                case 4: return n.parent == null ? -1 : n.parent.number;
                default: return REFUSED;
            }
        }
    }

    private static long seed = 1;
    private static int runOfCall = 0;
    private static final Map<String, Integer> answers = new HashMap<>();
    private static final List<String> told = new ArrayList<>();

    private static int chance(int bound) {
        seed = seed * 6364136223846793005L + 1442695040888963407L;
        return (int) ((seed >>> 33) % bound);
    }

    /** Most paths lead somewhere, to a directory at least if one is to be made in it; now and then it is any int. */
    private static int anyPath(Model m, int p, int names, boolean inside) {
        if (chance(80) == 0) {
            return (int) (seed >>> 16);
        }
        if (chance(100) == 0) {
            return NONE;
        }
        boolean root = chance(3) != 0;
        boolean there = p >= 0 && p < 4 && m.processes[p] != null;
        int row = there && chance(10) != 0 ? likelyRow(m, m.processes[p], root, names, inside) : anyRow(names);
        return root ? -1 - row : row;
    }

    private static int anyRow(int names) {
        int row = 0;
        int length = chance(7);
        for (int i = 0; i < length; i++) {
            int e = chance(8) == 0 ? 10 : 1 + chance(names);
            row = row * 11 + (chance(100) == 0 ? 0 : e);
        }
        return row;
    }

    private static int likelyRow(Model m, Process q, boolean root, int names, boolean inside) {
        int row = 0;
        Node last = root ? m.nodes[0] : q.dot.get(q.dot.size() - 1);
        int length = chance(3) == 0 ? chance(7) : chance(4);
        for (int i = 0; i < length; i++) {
            List<Node> children = new ArrayList<>();
            boolean filesToo = chance(12) == 0 || (i == length - 1 && !inside);
            for (Node directory : Model.seenAt(q, last)) {
                directory.children.forEach(c -> { if (c.directory || filesToo) children.add(c); });
            }
            if (children.isEmpty() && chance(6) != 0) {
                return row;
            }
            int e = chance(12) == 0 ? 10 : 1 + chance(names);
            if (!children.isEmpty() && chance(16) != 0) {
                last = children.get(chance(children.size()));
                e = last.name;
            }
            row = row * 11 + e;
        }
        return row;
    }

    /** A row to create at: a likely one and a name behind it. */
    private static int newPath(Model m, int p, int names) {
        int path = anyPath(m, p, names, true);
        int row = path < 0 ? -1 - path : path;
        if (row >= 161051 || chance(20) == 0) {
            return path;
        }
        int longer = row * 11 + 1 + chance(names);
        return path < 0 ? -1 - longer : longer;
    }

    private static int near(int bound) {
        return chance(40) == 0 ? (int) (seed >>> 16) : chance(25) == 0 ? bound : chance(25) == 0 ? -1 : chance(bound);
    }

    private static int anyProcess(Model m) {
        int p = near(4);
        for (int i = 0; i < 8 && p >= 0 && p < 4 && m.processes[p] == null; i++) {
            p = chance(4);
        }
        return p;
    }

    private static int anyDescriptor(Model m, int p) {
        int d = near(4);
        for (int i = 0; i < 4 && d >= 0 && d < 4 && m.descriptor(p, d) == null; i++) {
            d = chance(4);
        }
        return d;
    }

    private static void compare(String name, String call, long got, long want) {
        boolean telling = want == NONE || want == END || want == CLOSED || (want < 0 && want >= NOT_BOUND);
        String kind = telling ? "" + want : "fine";
        answers.merge(name + " " + kind, 1, Integer::sum);
        told.add(call + " answered " + got);
        if (got != want) {
            System.out.println("run " + runOfCall + ": " + call + " answered " + got + ", due is " + want);
            System.out.println(String.join("\n", told));
            System.exit(1);
        }
    }

    private static void oneCall(BoundTrees x, Model m, int names, boolean calm) {
        int which = chance(calm ? 145 : 95);
        int p = anyProcess(m), o = near(3), d = anyDescriptor(m, p), v = (int) (seed >>> 20);
        int a = which < 74 ? anyPath(m, p, names, false) : newPath(m, p, names), b = anyPath(m, p, names, false);
        boolean yes = chance(3) != 0;
        String name = "";
        String args = "";
        long got = 0, want = 0;
        try {
            if (which < 4) {
                name = "place"; args = p + ", " + a; got = x.place(p, a); want = m.place(p, a);
            } else if (which < 10) {
                int k = near(5);
                name = "seen"; args = p + ", " + a + ", " + k; got = x.seen(p, a, k); want = m.seen(p, a, k);
            } else if (which < 13) {
                name = "fork"; args = p + ", " + o + ", " + yes; got = x.fork(p, o, yes); want = m.fork(p, o, yes);
            } else if (which < 15) {
                name = "exit"; args = "" + p; got = x.exit(p); want = m.exit(p);
            } else if (which < 20) {
                name = "chdir"; args = p + ", " + a; got = x.chdir(p, a); want = m.chdir(p, a);
            } else if (which < 22) {
                name = "dot"; args = "" + p; got = x.dot(p); want = m.dot(p);
            } else if (which < 28) {
                name = "bind"; args = p + ", " + a + ", " + b + ", " + o + ", " + yes;
                got = x.bind(p, a, b, o, yes); want = m.bind(p, a, b, o, yes);
            } else if (which < 30) {
                int tree = near(3);
                name = "mount"; args = p + ", " + tree + ", " + b + ", " + o + ", " + yes;
                got = x.mount(p, tree, b, o, yes); want = m.mount(p, tree, b, o, yes);
            } else if (which < 34) {
                int f = chance(4) == 0 ? NONE : a;
                name = "unmount"; args = p + ", " + f + ", " + b; got = x.unmount(p, f, b); want = m.unmount(p, f, b);
            } else if (which < (calm ? 37 : 43)) {
                name = "remove"; args = p + ", " + a; got = x.remove(p, a); want = m.remove(p, a);
            } else if (which < 49) {
                name = "open"; args = p + ", " + a; got = x.open(p, a); want = m.open(p, a);
            } else if (which < 60) {
                name = "read"; args = p + ", " + d; got = x.read(p, d); want = m.read(p, d);
            } else if (which < 67) {
                name = "write"; args = p + ", " + d + ", " + v; got = x.write(p, d, v); want = m.write(p, d, v);
            } else if (which < 71) {
                int k = chance(2) == 0 ? 0 : near(7);
                name = "seek"; args = p + ", " + d + ", " + k; got = x.seek(p, d, k) ? 1 : 0; want = m.seek(p, d, k);
            } else if (which < 74) {
                name = "close"; args = p + ", " + d; got = x.close(p, d) ? 1 : 0; want = m.close(p, d);
            } else if (which < 76) {
                int node = near(48);
                name = "state"; args = "" + node; got = x.state(node); want = m.state(node);
            } else if (which < 79) {
                int node = near(chance(2) == 0 ? 48 : 9), what = near(5);
                name = "about"; args = node + ", " + what; got = x.about(node, what); want = m.about(node, what);
            } else {
                name = "create"; args = p + ", " + a + ", " + yes; got = x.create(p, a, yes); want = m.create(p, a, yes);
            }
        } catch (Refusal refusal) {
            want = refusal.answer;
        }
        compare(name, name + "(" + args + ")", got, want);
        m.sweep();
    }

    private static void compareNodes(BoundTrees x, Model m) {
        for (int node = -1; node <= 48; node++) {
            compare("state", "state(" + node + ")", x.state(node), m.state(node));
        }
        for (int i = 0; i < 48; i++) {
            compare("about", "about(" + i + ", 0)", x.about(i, 0), m.about(i, 0));
            compare("about", "about(" + i + ", 4)", x.about(i, 4), m.about(i, 4));
        }
    }

    private static void oneRun(int run) {
        seed = run * 7919L + 17;
        runOfCall = run;
        told.clear();
        BoundTrees x = new BoundTrees();
        Model m = new Model();
        int names = 2 + chance(8);
        boolean calm = run % 2 == 0;
        for (int call = 0; call < CALLS - LAST_CALLS; call++) {
            oneCall(x, m, names, calm);
        }
        compareNodes(x, m);
    }

    /** Runs that never bring about an answer would say nothing of it. */
    private static int rare() {
        int missing = 0;
        String[] expected = {
            "place -1", "place -2", "place -3", "place -4", "seen -4", "seen 1073741824", "fork -1", "fork -6", "exit -1",
            "chdir -3", "chdir -4", "bind -1", "bind -2", "bind -4", "bind -6", "bind -7", "mount -4", "mount -6", "mount -7",
            "unmount -2", "unmount -4", "unmount -10", "create -2", "create -3", "create -4", "create -5", "create -6",
            "create -8", "remove -4", "remove -7", "remove -9", "open -4", "open -6", "read 1099511627776",
            "read -1099511627776", "write -1", "write -6", "state -1", "about -1"};
        for (String e : expected) {
            if (answers.getOrDefault(e, 0) < 5) {
                missing++;
                System.out.println("too rare in these runs: " + e);
            }
        }
        return missing;
    }

    public static void main(String[] args) {
        for (int run = 0; run < RUNS; run++) {
            oneRun(run);
        }
        if (args.length > 0) {
            answers.forEach((k, v) -> System.out.println(k + ": " + v));
        }
        if (rare() != 0) {
            System.exit(1);
        }
        System.out.println(RUNS + " runs of " + CALLS + " calls are as the model's");
    }
}
