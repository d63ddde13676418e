/** Processes over three trees of files, each process with a space of names of its own. */
public final class BoundTrees {
    public static final int REFUSED = -1, NOT_FOUND = -2, NOT_DIRECTORY = -3, TOO_DEEP = -4, EXISTS = -5, FULL = -6, KIND = -7, NO_CREATE = -8, NOT_EMPTY = -9, NOT_BOUND = -10;
    public static final int NONE = 1 << 30;
    public static final long END = 1L << 40, CLOSED = -1L << 40;

    private static final int NODES = 48, ROOTS = 3, FILE_INTS = 6;
    private static final int PROCESSES = 4, DESCRIPTORS = 4;
    private static final int COVERS = 6, MEMBERS = 5;
    private static final int TRAIL_NODES = 7, ELEMENTS = 6;
    private static final int BASE = 11, BACK = 10;
    private static final int ALL_INTS = NODES * FILE_INTS;
    private static final int ALL_DOT_NODES = PROCESSES * TRAIL_NODES;
    private static final int ALL_COVERS = PROCESSES * COVERS, ALL_MEMBERS = ALL_COVERS * MEMBERS;
    private static final int ALL_DESCRIPTORS = PROCESSES * DESCRIPTORS, ALL_OPEN_NODES = ALL_DESCRIPTORS * MEMBERS;
    private static final int FREE = 0, THERE = 1, GONE = 2;
    private static final int OWN_SPACE = 0, COPIED_SPACE = 1, EMPTY_SPACE = 2;
    private static final int REPLACE = 0, BEFORE = 1, AFTER = 2;
    /** No number of a node, a cover, a descriptor or a process. */
    private static final int MISSING = -1;
    private static final int DONE = 0;

    private final int[] nodeState = new int[NODES];
    private final boolean[] nodeIsDirectory = new boolean[NODES];
    private final int[] nodeName = new int[NODES];
    private final int[] nodeParent = new int[NODES];
    private final int[] nodeVersion = new int[NODES];
    private final int[] nodeSize = new int[NODES];
    private final int[] nodeInts = new int[ALL_INTS];
    /** When a node was made: numbers are used again, so they don't tell the order of children. */
    private final int[] nodeStamp = new int[NODES];
    private final boolean[] nodeIsHeld = new boolean[NODES];
    private int lastStamp = 0;

    private final boolean[] processIsThere = new boolean[PROCESSES];
    private final int[] processSpace = new int[PROCESSES];
    private final int[] processTable = new int[PROCESSES];
    private final int[] dotLength = new int[PROCESSES];
    private final int[] dotNode = new int[ALL_DOT_NODES];

    /** A cover is in use exactly if it has members; space s has those from s * COVERS on. */
    private final int[] coverCount = new int[ALL_COVERS];
    private final int[] coveredNode = new int[ALL_COVERS];
    private final int[] memberNode = new int[ALL_MEMBERS];
    private final boolean[] memberCreates = new boolean[ALL_MEMBERS];

    /** A descriptor is open exactly if it has nodes; table t has those from t * DESCRIPTORS on. */
    private final int[] openCount = new int[ALL_DESCRIPTORS];
    private final int[] openNode = new int[ALL_OPEN_NODES];
    /** Which of a descriptor's directories is being read. */
    private final int[] openMember = new int[ALL_DESCRIPTORS];
    /** A file's position, or the stamp of the child read last from the directory being read. */
    private final int[] openPosition = new int[ALL_DESCRIPTORS];

    /** The trail of the evaluation made last. */
    private final int[] trail = new int[TRAIL_NODES];
    private int trailLength = 0;
    /** The elements of the path read last, the last element first. */
    private final int[] element = new int[ELEMENTS];
    private int elementCount = 0;
    /** The nodes that a bind or mount brings. */
    private final int[] coming = new int[MEMBERS];
    private int comingCount = 0;

    public BoundTrees() {
        for (int node = 0; node < ROOTS; node++) {
            nodeState[node] = THERE;
            nodeIsDirectory[node] = true;
            nodeParent[node] = MISSING;
        }
        processIsThere[0] = true;
        dotLength[0] = 1;
    }

    public int place(int p, int path) {
        return evaluate(p, path);
    }

    public int seen(int p, int path, int k) {
        int node = evaluate(p, path);
        if (node < 0) {
            return node;
        }
        int cover = coverOf(processSpace[p], node);
        if (k < 0 || k >= seenCount(cover)) {
            return NONE;
        }
        return seenNode(cover, node, k);
    }

    public int fork(int p, int space, boolean shared) {
        if (!isProcess(p) || space < OWN_SPACE || space > EMPTY_SPACE) {
            return REFUSED;
        }
        int child = freeProcess();
        if (child == MISSING) {
            return FULL;
        }
        // Both are sought while the child is not there yet, so at most three are in use.
        int itsSpace = space == OWN_SPACE ? processSpace[p] : unusedOf(processSpace);
        int itsTable = shared ? processTable[p] : unusedOf(processTable);
        if (space == COPIED_SPACE) {
            copySpace(processSpace[p], itsSpace);
        }
        if (space == EMPTY_SPACE) {
            clearSpace(itsSpace);
        }
        if (!shared) {
            copyTable(processTable[p], itsTable);
        }
        copyDot(p, child);
        processSpace[child] = itsSpace;
        processTable[child] = itsTable;
        processIsThere[child] = true;
        return child;
    }

    public int exit(int p) {
        if (!isProcess(p) || processCount() == 1) {
            return REFUSED;
        }
        processIsThere[p] = false;
        freeWhatIsNotHeld();
        return processCount();
    }

    public int chdir(int p, int path) {
        int node = evaluate(p, path);
        if (node < 0) {
            return node;
        }
        if (!nodeIsDirectory[node]) {
            return NOT_DIRECTORY;
        }
        for (int i = 0; i < trailLength; i++) {
            dotNode[p * TRAIL_NODES + i] = trail[i];
        }
        dotLength[p] = trailLength;
        freeWhatIsNotHeld();
        return node;
    }

    public int dot(int p) {
        if (!isProcess(p)) {
            return REFUSED;
        }
        int row = 0;
        for (int i = 1; i < dotLength[p]; i++) {
            int node = dotNode[p * TRAIL_NODES + i];
            row = row * BASE + nodeName[node];
        }
        return -1 - row;
    }

    public int bind(int p, int fresh, int old, int order, boolean create) {
        if (!isProcess(p) || !isPath(fresh) || !isPath(old) || !isOrder(order)) {
            return REFUSED;
        }
        int from = evaluate(p, fresh);
        if (from < 0) {
            return from;
        }
        int over = evaluate(p, old);
        if (over < 0) {
            return over;
        }
        if (nodeIsDirectory[from] != nodeIsDirectory[over]) {
            return KIND;
        }
        if (!nodeIsDirectory[over] && order != REPLACE) {
            return KIND;
        }
        int cover = coverOf(processSpace[p], from);
        comingCount = seenCount(cover);
        for (int i = 0; i < comingCount; i++) {
            coming[i] = seenNode(cover, from, i);
        }
        return coverWithComing(processSpace[p], over, order, create);
    }

    public int mount(int p, int tree, int old, int order, boolean create) {
        if (!isProcess(p) || tree < 0 || tree >= ROOTS || !isPath(old) || !isOrder(order)) {
            return REFUSED;
        }
        int over = evaluate(p, old);
        if (over < 0) {
            return over;
        }
        if (!nodeIsDirectory[over]) {
            return KIND;
        }
        comingCount = 1;
        coming[0] = tree;
        return coverWithComing(processSpace[p], over, order, create);
    }

    public int unmount(int p, int fresh, int old) {
        boolean all = fresh == NONE;
        if (!isProcess(p) || !isPath(old) || (!all && !isPath(fresh))) {
            return REFUSED;
        }
        int from = all ? MISSING : evaluate(p, fresh);
        if (!all && from < 0) {
            return from;
        }
        int over = evaluate(p, old);
        if (over < 0) {
            return over;
        }
        int cover = coverOf(processSpace[p], over);
        if (cover == MISSING) {
            return NOT_BOUND;
        }
        if (all) {
            coverCount[cover] = 0;
        } else {
            int k = memberIndex(cover, from);
            if (k == MISSING) {
                return NOT_BOUND;
            }
            takeMemberOut(cover, k);
        }
        freeWhatIsNotHeld();
        return coverCount[cover];
    }

    public int create(int p, int path, boolean directory) {
        if (!isProcess(p) || !isPath(path) || !endsInName(path)) {
            return REFUSED;
        }
        int name = rowOf(path) % BASE;
        int others = withoutLast(path);
        int node = evaluate(p, others);
        if (node < 0) {
            return node;
        }
        if (!nodeIsDirectory[node]) {
            return NOT_DIRECTORY;
        }
        int cover = coverOf(processSpace[p], node);
        if (lookUp(cover, node, name) != MISSING) {
            return EXISTS;
        }
        int parent = cover == MISSING ? node : creatingMember(cover);
        if (parent == MISSING) {
            return NO_CREATE;
        }
        if (nodeState[parent] == GONE) {
            return NOT_FOUND;
        }
        int made = freeNode();
        if (made == MISSING) {
            return FULL;
        }
        makeNode(made, parent, name, directory);
        return made;
    }

    public int remove(int p, int path) {
        int node = evaluate(p, path);
        if (node < 0) {
            return node;
        }
        if (node < ROOTS) {
            return KIND;
        }
        if (childCount(node) > 0) {
            return NOT_EMPTY;
        }
        nodeState[node] = GONE;
        nodeVersion[nodeParent[node]]++;
        freeWhatIsNotHeld();
        return node;
    }

    public int open(int p, int path) {
        int node = evaluate(p, path);
        if (node < 0) {
            return node;
        }
        int d = closedDescriptor(processTable[p]);
        if (d == MISSING) {
            return FULL;
        }
        int slot = processTable[p] * DESCRIPTORS + d;
        int cover = coverOf(processSpace[p], node);
        int count = seenCount(cover);
        for (int i = 0; i < count; i++) {
            openNode[slot * MEMBERS + i] = seenNode(cover, node, i);
        }
        openCount[slot] = count;
        openMember[slot] = 0;
        openPosition[slot] = 0;
        return d;
    }

    public long read(int p, int d) {
        int slot = openSlot(p, d);
        if (slot == MISSING) {
            return CLOSED;
        }
        if (isOfDirectories(slot)) {
            return readDirectories(slot);
        }
        return readFile(slot);
    }

    public int write(int p, int d, int v) {
        int slot = openSlot(p, d);
        if (slot == MISSING || isOfDirectories(slot)) {
            return REFUSED;
        }
        int file = openNode[slot * MEMBERS];
        int position = openPosition[slot];
        if (position >= FILE_INTS) {
            return FULL;
        }
        nodeInts[file * FILE_INTS + position] = v;
        if (position == nodeSize[file]) {
            nodeSize[file]++;
        }
        nodeVersion[file]++;
        openPosition[slot] = position + 1;
        return position + 1;
    }

    public boolean seek(int p, int d, int k) {
        int slot = openSlot(p, d);
        if (slot == MISSING) {
            return false;
        }
        int greatest = isOfDirectories(slot) ? 0 : nodeSize[openNode[slot * MEMBERS]];
        if (k < 0 || k > greatest) {
            return false;
        }
        openMember[slot] = 0;
        openPosition[slot] = k;
        return true;
    }

    public boolean close(int p, int d) {
        int slot = openSlot(p, d);
        if (slot == MISSING) {
            return false;
        }
        openCount[slot] = 0;
        freeWhatIsNotHeld();
        return true;
    }

    public int state(int node) {
        return isNode(node) ? nodeState[node] : REFUSED;
    }

    public int about(int node, int what) {
        if (!isNode(node) || nodeState[node] == FREE) {
            return REFUSED;
        }
        switch (what) {
            case 0:
                return nodeVersion[node];
            case 1:
                return nodeSize[node];
            case 2:
                return childCount(node);
            case 3:
                return nodeName[node];
            case 4:
                return nodeParent[node];
            default:
                return REFUSED;
        }
    }

    // Arguments

    private static boolean isNode(int node) {
        return node >= 0 && node < NODES;
    }

    private static boolean isOrder(int order) {
        return order >= REPLACE && order <= AFTER;
    }

    private boolean isProcess(int p) {
        return p >= 0 && p < PROCESSES && processIsThere[p];
    }

    // Paths

    /** The number whose digits are the path's elements. */
    private static int rowOf(int path) {
        return path < 0 ? -1 - path : path;
    }

    private static boolean isPath(int path) {
        int rest = rowOf(path);
        for (int i = 0; i < ELEMENTS && rest > 0; i++) {
            if (rest % BASE == 0) {
                return false;
            }
            rest /= BASE;
        }
        return rest == 0;
    }

    private static boolean endsInName(int path) {
        int last = rowOf(path) % BASE;
        return last != 0 && last != BACK;
    }

    private static int withoutLast(int path) {
        int row = rowOf(path) / BASE;
        return path < 0 ? -1 - row : row;
    }

    private void readElements(int path) {
        int rest = rowOf(path);
        elementCount = 0;
        for (int i = 0; i < ELEMENTS && rest > 0; i++) {
            element[i] = rest % BASE;
            elementCount = i + 1;
            rest /= BASE;
        }
    }

    // Evaluation

    /** The place of a path, or why there is none; the trail is left in the field. */
    private int evaluate(int p, int path) {
        if (!isProcess(p) || !isPath(path)) {
            return REFUSED;
        }
        beginTrail(p, path);
        readElements(path);
        for (int i = elementCount - 1; i >= 0; i--) {
            int answer = step(processSpace[p], element[i]);
            if (answer != DONE) {
                return answer;
            }
        }
        int last = trail[trailLength - 1];
        return nodeState[last] == GONE ? NOT_FOUND : last;
    }

    private void beginTrail(int p, int path) {
        trailLength = path < 0 ? 1 : dotLength[p];
        // Every DOT begins with node 0, so the root's trail is the first node of any DOT.
        for (int i = 0; i < trailLength; i++) {
            trail[i] = dotNode[p * TRAIL_NODES + i];
        }
    }

    private int step(int space, int name) {
        if (name == BACK) {
            trailLength = trailLength > 1 ? trailLength - 1 : 1;
            return DONE;
        }
        int last = trail[trailLength - 1];
        if (!nodeIsDirectory[last]) {
            return NOT_DIRECTORY;
        }
        int cover = coverOf(space, last);
        int found = lookUp(cover, last, name);
        if (found == MISSING) {
            return NOT_FOUND;
        }
        if (trailLength == TRAIL_NODES) {
            return TOO_DEEP;
        }
        trail[trailLength] = found;
        trailLength++;
        return DONE;
    }

    /** The first child of that name of what is SEEN at a node with that cover. */
    private int lookUp(int cover, int node, int name) {
        int count = seenCount(cover);
        for (int i = 0; i < count; i++) {
            int directory = seenNode(cover, node, i);
            int child = childNamed(directory, name);
            if (child != MISSING) {
                return child;
            }
        }
        return MISSING;
    }

    // Covers

    /** The cover of a node in a space; MISSING if it is not covered there. */
    private int coverOf(int space, int node) {
        for (int i = space * COVERS; i < (space + 1) * COVERS; i++) {
            if (coverCount[i] > 0 && coveredNode[i] == node) {
                return i;
            }
        }
        return MISSING;
    }

    private int unusedCover(int space) {
        for (int i = space * COVERS; i < (space + 1) * COVERS; i++) {
            if (coverCount[i] == 0) {
                return i;
            }
        }
        return MISSING;
    }

    private int seenCount(int cover) {
        return cover == MISSING ? 1 : coverCount[cover];
    }

    private int seenNode(int cover, int node, int k) {
        return cover == MISSING ? node : memberNode[cover * MEMBERS + k];
    }

    private int creatingMember(int cover) {
        for (int i = 0; i < coverCount[cover]; i++) {
            if (memberCreates[cover * MEMBERS + i]) {
                return memberNode[cover * MEMBERS + i];
            }
        }
        return MISSING;
    }

    private int memberIndex(int cover, int node) {
        for (int i = 0; i < coverCount[cover]; i++) {
            if (memberNode[cover * MEMBERS + i] == node) {
                return i;
            }
        }
        return MISSING;
    }

    private int coverWithComing(int space, int over, int order, boolean create) {
        int cover = coverOf(space, over);
        int kept = order == REPLACE ? 0 : seenCount(cover);
        if (kept + comingCount > MEMBERS) {
            return FULL;
        }
        if (cover == MISSING) {
            cover = unusedCover(space);
            if (cover == MISSING) {
                return FULL;
            }
            coveredNode[cover] = over;
            putMember(cover, 0, over, false);
        }
        if (order == BEFORE) {
            moveMembersUp(cover, kept);
        }
        int first = order == AFTER ? kept : 0;
        for (int i = 0; i < comingCount; i++) {
            putMember(cover, first + i, coming[i], create);
        }
        coverCount[cover] = kept + comingCount;
        freeWhatIsNotHeld();
        return coverCount[cover];
    }

    private void putMember(int cover, int k, int node, boolean create) {
        memberNode[cover * MEMBERS + k] = node;
        memberCreates[cover * MEMBERS + k] = create;
    }

    /** Makes room for those that come before the first members. */
    private void moveMembersUp(int cover, int count) {
        for (int k = count - 1; k >= 0; k--) {
            int i = cover * MEMBERS + k;
            putMember(cover, k + comingCount, memberNode[i], memberCreates[i]);
        }
    }

    private void takeMemberOut(int cover, int k) {
        for (int j = k + 1; j < coverCount[cover]; j++) {
            int i = cover * MEMBERS + j;
            putMember(cover, j - 1, memberNode[i], memberCreates[i]);
        }
        coverCount[cover]--;
    }

    // Processes

    private int freeProcess() {
        for (int p = 0; p < PROCESSES; p++) {
            if (!processIsThere[p]) {
                return p;
            }
        }
        return MISSING;
    }

    private int processCount() {
        int count = 0;
        for (int p = 0; p < PROCESSES; p++) {
            if (processIsThere[p]) {
                count++;
            }
        }
        return count;
    }

    /** The least number of a space or a table that no process has, given those that they have. */
    private int unusedOf(int[] numbers) {
        int used = 0;
        for (int p = 0; p < PROCESSES; p++) {
            if (processIsThere[p]) {
                used |= 1 << numbers[p];
            }
        }
        int least = 0;
        for (int i = PROCESSES - 1; i >= 0; i--) {
            if ((used & (1 << i)) == 0) {
                least = i;
            }
        }
        return least;
    }

    private void copyDot(int from, int to) {
        for (int i = 0; i < TRAIL_NODES; i++) {
            dotNode[to * TRAIL_NODES + i] = dotNode[from * TRAIL_NODES + i];
        }
        dotLength[to] = dotLength[from];
    }

    private void copySpace(int from, int to) {
        for (int i = 0; i < COVERS; i++) {
            coverCount[to * COVERS + i] = coverCount[from * COVERS + i];
            coveredNode[to * COVERS + i] = coveredNode[from * COVERS + i];
        }
        int all = COVERS * MEMBERS;
        for (int i = 0; i < all; i++) {
            memberNode[to * all + i] = memberNode[from * all + i];
            memberCreates[to * all + i] = memberCreates[from * all + i];
        }
    }

    private void clearSpace(int space) {
        for (int i = 0; i < COVERS; i++) {
            coverCount[space * COVERS + i] = 0;
        }
    }

    private void copyTable(int from, int to) {
        for (int i = 0; i < DESCRIPTORS; i++) {
            openCount[to * DESCRIPTORS + i] = openCount[from * DESCRIPTORS + i];
            openMember[to * DESCRIPTORS + i] = openMember[from * DESCRIPTORS + i];
            openPosition[to * DESCRIPTORS + i] = openPosition[from * DESCRIPTORS + i];
        }
        int all = DESCRIPTORS * MEMBERS;
        for (int i = 0; i < all; i++) {
            openNode[to * all + i] = openNode[from * all + i];
        }
    }

    // Descriptors

    private int closedDescriptor(int table) {
        for (int d = 0; d < DESCRIPTORS; d++) {
            if (openCount[table * DESCRIPTORS + d] == 0) {
                return d;
            }
        }
        return MISSING;
    }

    private int openSlot(int p, int d) {
        if (!isProcess(p) || d < 0 || d >= DESCRIPTORS) {
            return MISSING;
        }
        int slot = processTable[p] * DESCRIPTORS + d;
        return openCount[slot] > 0 ? slot : MISSING;
    }

    /** The nodes of a descriptor are all of one kind, as bind keeps files and directories apart. */
    private boolean isOfDirectories(int slot) {
        return nodeIsDirectory[openNode[slot * MEMBERS]];
    }

    private long readFile(int slot) {
        int file = openNode[slot * MEMBERS];
        int position = openPosition[slot];
        if (position >= nodeSize[file]) {
            return END;
        }
        openPosition[slot] = position + 1;
        return nodeInts[file * FILE_INTS + position];
    }

    /** END stands behind the last directory, so those before it are done with even if nothing was found. */
    private long readDirectories(int slot) {
        int last = openCount[slot] - 1;
        for (int i = openMember[slot]; i <= last; i++) {
            int child = childMadeAfter(openNode[slot * MEMBERS + i], openPosition[slot]);
            if (child != MISSING) {
                openPosition[slot] = nodeStamp[child];
                return child;
            }
            if (i < last) {
                openMember[slot] = i + 1;
                openPosition[slot] = 0;
            }
        }
        return END;
    }

    // Nodes

    private boolean isChild(int node, int directory) {
        return nodeState[node] == THERE && nodeParent[node] == directory;
    }

    private int childNamed(int directory, int name) {
        for (int node = ROOTS; node < NODES; node++) {
            if (nodeName[node] == name && isChild(node, directory)) {
                return node;
            }
        }
        return MISSING;
    }

    private int childMadeAfter(int directory, int stamp) {
        int next = MISSING;
        for (int node = ROOTS; node < NODES; node++) {
            if (isChild(node, directory) && nodeStamp[node] > stamp) {
                if (next == MISSING || nodeStamp[node] < nodeStamp[next]) {
                    next = node;
                }
            }
        }
        return next;
    }

    private int childCount(int directory) {
        int count = 0;
        for (int node = ROOTS; node < NODES; node++) {
            if (isChild(node, directory)) {
                count++;
            }
        }
        return count;
    }

    private int freeNode() {
        for (int node = ROOTS; node < NODES; node++) {
            if (nodeState[node] == FREE) {
                return node;
            }
        }
        return MISSING;
    }

    private void makeNode(int node, int parent, int name, boolean directory) {
        lastStamp++;
        nodeState[node] = THERE;
        nodeIsDirectory[node] = directory;
        nodeName[node] = name;
        nodeParent[node] = parent;
        nodeVersion[node] = 0;
        nodeSize[node] = 0;
        nodeStamp[node] = lastStamp;
        nodeVersion[parent]++;
    }

    // Holding

    private void freeWhatIsNotHeld() {
        for (int node = 0; node < NODES; node++) {
            nodeIsHeld[node] = false;
        }
        for (int p = 0; p < PROCESSES; p++) {
            if (processIsThere[p]) {
                holdDot(p);
                holdSpace(processSpace[p]);
                holdTable(processTable[p]);
            }
        }
        for (int node = ROOTS; node < NODES; node++) {
            if (nodeState[node] == GONE && !nodeIsHeld[node]) {
                nodeState[node] = FREE;
            }
        }
    }

    private void holdDot(int p) {
        for (int i = 0; i < dotLength[p]; i++) {
            nodeIsHeld[dotNode[p * TRAIL_NODES + i]] = true;
        }
    }

    private void holdSpace(int space) {
        for (int cover = space * COVERS; cover < (space + 1) * COVERS; cover++) {
            if (coverCount[cover] > 0) {
                nodeIsHeld[coveredNode[cover]] = true;
            }
            for (int i = 0; i < coverCount[cover]; i++) {
                nodeIsHeld[memberNode[cover * MEMBERS + i]] = true;
            }
        }
    }

    private void holdTable(int table) {
        for (int slot = table * DESCRIPTORS; slot < (table + 1) * DESCRIPTORS; slot++) {
            for (int i = 0; i < openCount[slot]; i++) {
                nodeIsHeld[openNode[slot * MEMBERS + i]] = true;
            }
        }
    }
}
