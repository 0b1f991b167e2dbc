import java.util.Arrays;

/** An editor whose text is kept in a rope; ../shared/DOC.md tells what each call answers. */
public final class TextRopes {
    public static final int NO_SUCH = -1;
    public static final int BAD_VALUE = -2;
    public static final int NOT_POSSIBLE = -3;
    public static final int LIMIT = -4;
    public static final int NONE = -5;

    private static final int EMPTY = 0;
    private static final int MOST_CHARACTERS = 400;
    private static final int MOST_TYPED = 40;
    private static final int SMALLEST_LEAF = 2;
    private static final int LARGEST_LEAF = 16;
    private static final int FIRST_LEAF_SIZE = 8;
    private static final int MARKS = 4;
    private static final int RING = 4;
    private static final int VERSIONS = 3;
    private static final int SAVED_STATES = 6;
    private static final int END_OF_LINE = 10;
    private static final int FIRST_PRINTABLE = 32;
    private static final int LAST_PRINTABLE = 126;
    private static final long WAY_MODULUS = 1000000007L;
    private static final long HASH_START = 155L;

    // A rope of 400 characters has at most 399 pairs, so its depth is at most 399.
    private static final int MOST_NODES_OF_A_ROPE = 2 * MOST_CHARACTERS;

    // What can be reached at once: 7 texts (now and saved), 3 versions and the 10 ropes that
    // 7 rings, each one call apart, hold together. That is 20 ropes of at most 799 nodes, 15,980.
    private static final int NODES = 20000;

    // One change makes at most three splits of 2 * 399 + 2 nodes, three joins of 2 nodes and one
    // build of 399 pairs, that is 2,805 nodes; a collection always leaves more than 4,000.
    private static final int NODES_OF_A_CHANGE = 3000;

    // A build halves its list, so 400 leaves lie under 9 pairs.
    private static final int DEEPEST_BUILD = 20;

    private final Weaver weaver = new Weaver();
    private final Nodes nodes = weaver.nodes;
    private final View view = new View();
    private final View otherView = new View();
    private final State now = new State();
    private final History history = new History();
    private final int[] versions = new int[VERSIONS];
    private final boolean[] isKept = new boolean[VERSIONS];
    private final int[] typed = new int[MOST_TYPED];
    private int typedCount = 0;
    private final int[] found = new int[MOST_CHARACTERS];

    public TextRopes() {
    }

    // ---- settings

    public int setLeafSize(int size) {
        if (size < SMALLEST_LEAF || size > LARGEST_LEAF) {
            return BAD_VALUE;
        }
        int previous = now.leafSize;
        history.save(now);
        now.leafSize = size;
        return previous;
    }

    public int setBalancing(int on) {
        if (on != 0 && on != 1) {
            return BAD_VALUE;
        }
        int previous = now.balancing;
        history.save(now);
        now.balancing = on;
        return previous;
    }

    // ---- buffer

    public int type(int code) {
        if (code != END_OF_LINE && (code < FIRST_PRINTABLE || code > LAST_PRINTABLE)) {
            return BAD_VALUE;
        }
        if (typedCount < 0 || typedCount >= typed.length) {
            return LIMIT;
        }
        typed[typedCount] = code;
        typedCount++;
        return typedCount;
    }

    public int clearBuffer() {
        int previous = typedCount;
        typedCount = 0;
        return previous;
    }

    // ---- changing the text

    public int insert(int position) {
        if (!isPosition(position)) {
            return NO_SUCH;
        }
        if (typedCount == 0) {
            return NOT_POSSIBLE;
        }
        if (length() + typedCount > MOST_CHARACTERS) {
            return LIMIT;
        }
        startChange();
        int rope = weaver.ropeOfCodes(typed, typedCount, now.leafSize);
        typedCount = 0;
        putIn(position, rope);
        balance();
        return length();
    }

    public int delete(int from, int to) {
        int refusal = refusalOfPiece(from, to);
        if (refusal != 0) {
            return refusal;
        }
        startChange();
        takeOut(from, to);
        balance();
        return length();
    }

    public int cut(int from, int to) {
        int refusal = refusalOfPiece(from, to);
        if (refusal != 0) {
            return refusal;
        }
        startChange();
        now.addToRing(takeOut(from, to));
        balance();
        return length();
    }

    public int copy(int from, int to) {
        int refusal = refusalOfPiece(from, to);
        if (refusal != 0) {
            return refusal;
        }
        startChange();
        weaver.split(now.text, from, now.leafSize);
        weaver.split(weaver.second, to - from, now.leafSize);
        now.addToRing(weaver.first);
        view.read(nodes, weaver.first);
        return view.leafCount;
    }

    public int paste(int position, int rope) {
        if (!isPosition(position) || !now.hasInRing(rope)) {
            return NO_SUCH;
        }
        int pasted = now.ropeOfRing(rope);
        if (length() + nodes.sizeOf(pasted) > MOST_CHARACTERS) {
            return LIMIT;
        }
        startChange();
        putIn(position, pasted);
        balance();
        return length();
    }

    public int move(int from, int to, int position) {
        int refusal = refusalOfPiece(from, to);
        if (refusal != 0) {
            return refusal;
        }
        int count = to - from;
        if (position < 0 || position > length() - count) {
            return BAD_VALUE;
        }
        startChange();
        putIn(position, takeOut(from, to));
        balance();
        return position + count;
    }

    public int replaceAll() {
        if (typedCount == 0 || now.ringCount == 0) {
            return NOT_POSSIBLE;
        }
        int rope = now.ropeOfRing(0);
        int growth = nodes.sizeOf(rope) - typedCount;
        int count = findAll();
        if (length() + count * growth > MOST_CHARACTERS) {
            return LIMIT;
        }
        history.save(now);
        for (int i = 0; i < count && i < found.length; i++) {
            int from = found[i] + i * growth;
            makeRoom();
            takeOut(from, from + typedCount);
            putIn(from, rope);
        }
        if (count > 0) {
            balance();
        }
        return count;
    }

    public int build() {
        startChange();
        rebuildText();
        return depth();
    }

    public int pack() {
        startChange();
        view.read(nodes, now.text);
        now.text = weaver.ropeOfCodes(view.codes, view.codeCount, now.leafSize);
        return leaves();
    }

    // ---- asking about the text

    public int length() {
        return nodes.sizeOf(now.text);
    }

    public int depth() {
        return nodes.heightOf(now.text);
    }

    public int leaves() {
        view.read(nodes, now.text);
        return view.leafCount;
    }

    public int isBalanced() {
        return weaver.hasBalance(now.text) ? 1 : 0;
    }

    public int builds() {
        return now.countedBuilds;
    }

    public int character(int position) {
        if (position < 0 || position >= length()) {
            return NO_SUCH;
        }
        return weaver.codeAt(now.text, position);
    }

    public int leaf(int leaf, int what) {
        view.read(nodes, now.text);
        if (leaf < 0 || leaf >= view.leafCount) {
            return NO_SUCH;
        }
        switch (what) {
            case 0:
                return view.startOfLeaf(leaf);
            case 1:
                return view.sizeOfLeaf(leaf);
            case 2:
                return view.levelOfLeaf(leaf);
            default:
                return BAD_VALUE;
        }
    }

    public int way(int position) {
        if (position < 0 || position >= length()) {
            return NO_SUCH;
        }
        return weaver.wayTo(now.text, position);
    }

    public int find(int from) {
        if (!isPosition(from)) {
            return NO_SUCH;
        }
        if (typedCount == 0) {
            return NOT_POSSIBLE;
        }
        view.read(nodes, now.text);
        return view.positionOf(typed, typedCount, from);
    }

    public int lines() {
        view.read(nodes, now.text);
        return 1 + view.lineEndsBefore(view.codeCount);
    }

    public int lineStart(int line) {
        view.read(nodes, now.text);
        return view.startOfLine(line);
    }

    public int lineOf(int position) {
        if (!isPosition(position)) {
            return NO_SUCH;
        }
        view.read(nodes, now.text);
        return view.lineEndsBefore(position);
    }

    // ---- marks

    public int setMark(int mark, int position) {
        if (mark < 0 || mark >= MARKS || !isPosition(position)) {
            return NO_SUCH;
        }
        int previous = now.markAt(mark);
        history.save(now);
        now.putMark(mark, position);
        return previous;
    }

    public int mark(int mark) {
        if (mark < 0 || mark >= MARKS) {
            return NO_SUCH;
        }
        return now.markAt(mark);
    }

    // ---- ring

    public int ring() {
        return now.ringCount;
    }

    public int ofRing(int rope, int what) {
        if (!now.hasInRing(rope)) {
            return NO_SUCH;
        }
        int asked = now.ropeOfRing(rope);
        switch (what) {
            case 0:
                return nodes.sizeOf(asked);
            case 1:
                return nodes.heightOf(asked);
            case 2:
                view.read(nodes, asked);
                return view.leafCount;
            default:
                return BAD_VALUE;
        }
    }

    public int ringCharacter(int rope, int position) {
        if (!now.hasInRing(rope)) {
            return NO_SUCH;
        }
        int asked = now.ropeOfRing(rope);
        if (position < 0 || position >= nodes.sizeOf(asked)) {
            return NO_SUCH;
        }
        return weaver.codeAt(asked, position);
    }

    // ---- versions

    public int keep(int version) {
        if (version < 0 || version >= versions.length || version >= isKept.length) {
            return NO_SUCH;
        }
        versions[version] = now.text;
        isKept[version] = true;
        return length();
    }

    public int goBack(int version) {
        if (version < 0 || version >= versions.length || version >= isKept.length) {
            return NO_SUCH;
        }
        if (!isKept[version]) {
            return NOT_POSSIBLE;
        }
        history.save(now);
        now.text = versions[version];
        now.lowerMarks(length());
        return length();
    }

    public int difference(int version) {
        if (version < 0 || version >= versions.length || version >= isKept.length) {
            return NO_SUCH;
        }
        if (!isKept[version]) {
            return NOT_POSSIBLE;
        }
        view.read(nodes, now.text);
        otherView.read(nodes, versions[version]);
        return view.firstDifference(otherView);
    }

    // ---- undo

    public int undo() {
        return history.restore(now) ? history.count : NOT_POSSIBLE;
    }

    public long digest() {
        long hash = HASH_START;
        hash = 31 * hash + length();
        hash = 31 * hash + depth();
        hash = 31 * hash + leaves();
        hash = 31 * hash + isBalanced();
        hash = 31 * hash + builds();
        view.read(nodes, now.text);
        for (int i = 0; i < view.leafCount; i++) {
            hash = 31 * hash + view.sizeOfLeaf(i);
            hash = 31 * hash + view.levelOfLeaf(i);
        }
        hash = view.hashOfCodes(hash);
        hash = 31 * hash + lines();
        for (int i = 0; i < MARKS; i++) {
            hash = 31 * hash + mark(i);
        }
        hash = 31 * hash + ring();
        for (int i = 0; i < now.ringCount && i < RING; i++) {
            hash = hashOfRingRope(hash, now.ropeOfRing(i));
        }
        return hash;
    }

    private long hashOfRingRope(long start, int rope) {
        view.read(nodes, rope);
        long hash = 31 * start + nodes.sizeOf(rope);
        hash = 31 * hash + nodes.heightOf(rope);
        hash = 31 * hash + view.leafCount;
        return view.hashOfCodes(hash);
    }

    private boolean isPosition(int position) {
        return position >= 0 && position <= length();
    }

    /** The error code for a piece of the text, or 0 if there is such a piece. */
    private int refusalOfPiece(int from, int to) {
        if (!isPosition(from) || !isPosition(to)) {
            return NO_SUCH;
        }
        return to <= from ? BAD_VALUE : 0;
    }

    private void startChange() {
        history.save(now);
        makeRoom();
    }

    // Only called between changes: what a change holds in its hands is no root of the collection.
    private void makeRoom() {
        if (nodes.free >= NODES_OF_A_CHANGE) {
            return;
        }
        nodes.startCollection();
        retainState(now);
        for (int i = 0; i < history.count && i < SAVED_STATES; i++) {
            State saved = history.savedState(i);
            if (saved != null) {
                retainState(saved);
            }
        }
        for (int i = 0; i < versions.length; i++) {
            nodes.retain(versions[i]);
        }
        nodes.endCollection();
    }

    private void retainState(State state) {
        nodes.retain(state.text);
        for (int i = 0; i < state.ringCount && i < RING; i++) {
            nodes.retain(state.ropeOfRing(i));
        }
    }

    private void putIn(int position, int rope) {
        int size = now.leafSize;
        weaver.split(now.text, position, size);
        int before = weaver.first;
        int behind = weaver.second;
        now.text = weaver.join(weaver.join(before, rope, size), behind, size);
        now.moveMarksOn(position, nodes.sizeOf(rope));
    }

    private int takeOut(int from, int to) {
        int size = now.leafSize;
        weaver.split(now.text, from, size);
        int before = weaver.first;
        weaver.split(weaver.second, to - from, size);
        int taken = weaver.first;
        now.text = weaver.join(before, weaver.second, size);
        now.moveMarksBack(from, to);
        return taken;
    }

    private void balance() {
        if (now.balancing == 1 && !weaver.hasBalance(now.text)) {
            rebuildText();
            now.countedBuilds++;
        }
    }

    private void rebuildText() {
        view.read(nodes, now.text);
        now.text = weaver.ropeOfLeaves(view.leafNodes, view.leafCount);
    }

    /** Notes the positions of all occurrences that replaceAll() replaces, and answers their number. */
    private int findAll() {
        view.read(nodes, now.text);
        int count = 0;
        int from = 0;
        for (int i = 0; i < found.length; i++) {
            int position = view.positionOf(typed, typedCount, from);
            if (position == NONE) {
                return count;
            }
            found[i] = position;
            count++;
            from = position + typedCount;
        }
        return count;
    }

    /**
     * All leaves and pairs, as numbers into rows that are made once; the number 0 is the empty rope.
     * A node never changes once it stands in a rope, so texts, ring, versions and saved states share
     * nodes, and a collection frees those that none of them reaches any more.
     */
    private static final class Nodes {
        // Eight characters stand in one long: sixteen elements a leaf would take most of the room.
        private static final int CODES_OF_A_LONG = 8;
        private static final int BITS_OF_A_CODE = 8;
        private static final long CODE_MASK = 255L;

        private final int[] left = new int[NODES];
        private final int[] right = new int[NODES];
        private final int[] size = new int[NODES];
        private final int[] height = new int[NODES];
        private final long[] lowCodes = new long[NODES];
        private final long[] highCodes = new long[NODES];
        // What the last collection reached; all below next has been given out, all others are free.
        private final boolean[] reached = new boolean[NODES];
        private int next = 1;
        private int free = NODES - 1;
        private final int[] waiting = new int[MOST_CHARACTERS];

        boolean isLeaf(int rope) {
            return rope > EMPTY && rope < NODES && left[rope] == EMPTY;
        }

        boolean isPair(int rope) {
            return rope > EMPTY && rope < NODES && left[rope] != EMPTY;
        }

        int sizeOf(int rope) {
            return rope > EMPTY && rope < NODES ? size[rope] : 0;
        }

        int heightOf(int rope) {
            return rope > EMPTY && rope < NODES ? height[rope] : 0;
        }

        int leftOf(int rope) {
            return rope > EMPTY && rope < NODES ? left[rope] : EMPTY;
        }

        int rightOf(int rope) {
            return rope > EMPTY && rope < NODES ? right[rope] : EMPTY;
        }

        int codeOf(int leaf, int index) {
            if (leaf <= EMPTY || leaf >= NODES || index < 0 || index >= LARGEST_LEAF) {
                return 0;
            }
            long codes = index < CODES_OF_A_LONG ? lowCodes[leaf] : highCodes[leaf];
            return (int) ((codes >>> (BITS_OF_A_CODE * (index % CODES_OF_A_LONG))) & CODE_MASK);
        }

        int newPair(int a, int b) {
            int pair = freshNode();
            if (pair > EMPTY && pair < NODES) {
                left[pair] = a;
                right[pair] = b;
                size[pair] = sizeOf(a) + sizeOf(b);
                height[pair] = 1 + Math.max(heightOf(a), heightOf(b));
            }
            return pair;
        }

        int newLeafOfBoth(int a, int b) {
            int leaf = newLeaf();
            appendCodes(leaf, a, 0, sizeOf(a));
            appendCodes(leaf, b, 0, sizeOf(b));
            return leaf;
        }

        /** A leaf without characters; it is filled before it goes into a rope. */
        int newLeaf() {
            int leaf = freshNode();
            if (leaf > EMPTY && leaf < NODES) {
                left[leaf] = EMPTY;
                right[leaf] = EMPTY;
                size[leaf] = 0;
                height[leaf] = 0;
                lowCodes[leaf] = 0L;
                highCodes[leaf] = 0L;
            }
            return leaf;
        }

        void append(int leaf, int code) {
            if (leaf <= EMPTY || leaf >= NODES || size[leaf] >= LARGEST_LEAF) {
                return;
            }
            int index = size[leaf];
            long placed = (long) code << (BITS_OF_A_CODE * (index % CODES_OF_A_LONG));
            if (index < CODES_OF_A_LONG) {
                lowCodes[leaf] |= placed;
            } else {
                highCodes[leaf] |= placed;
            }
            size[leaf]++;
        }

        void appendCodes(int leaf, int source, int from, int to) {
            for (int i = from; i < to; i++) {
                append(leaf, codeOf(source, i));
            }
        }

        private int freshNode() {
            for (int node = Math.max(next, 1); node < NODES; node++) {
                if (!reached[node]) {
                    next = node + 1;
                    free--;
                    return node;
                }
            }
            return EMPTY;
        }

        void startCollection() {
            for (int node = 0; node < NODES; node++) {
                reached[node] = false;
            }
        }

        void retain(int rope) {
            int node = rope;
            int count = 0;
            for (int seen = 0; seen < 2 * NODES; seen++) {
                if (node > EMPTY && node < NODES && !reached[node]) {
                    reached[node] = true;
                    if (count < waiting.length) {
                        waiting[count] = right[node];
                        count++;
                    }
                    node = left[node];
                } else if (count > 0) {
                    count--;
                    node = waiting[count];
                } else {
                    return;
                }
            }
        }

        void endCollection() {
            free = 0;
            for (int node = 1; node < NODES; node++) {
                if (!reached[node]) {
                    free++;
                }
            }
            next = 1;
        }
    }

    /** Joins, splits and builds ropes. Only built() calls itself: a rope may be too deep for a split that does. */
    private static final class Weaver {
        private final Nodes nodes = new Nodes();
        private final int[] path = new int[MOST_CHARACTERS];
        private final boolean[] wentRight = new boolean[MOST_CHARACTERS];
        private final int[] cutLeaves = new int[MOST_CHARACTERS];
        // Both answers of split().
        private int first = EMPTY;
        private int second = EMPTY;

        int join(int a, int b, int leafSize) {
            if (a == EMPTY) {
                return b;
            }
            if (b == EMPTY) {
                return a;
            }
            if (fitInOneLeaf(a, b, leafSize)) {
                return nodes.newLeafOfBoth(a, b);
            }
            int lastPart = nodes.rightOf(a);
            if (fitInOneLeaf(lastPart, b, leafSize)) {
                return nodes.newPair(nodes.leftOf(a), nodes.newLeafOfBoth(lastPart, b));
            }
            int firstPart = nodes.leftOf(b);
            if (fitInOneLeaf(a, firstPart, leafSize)) {
                return nodes.newPair(nodes.newLeafOfBoth(a, firstPart), nodes.rightOf(b));
            }
            return nodes.newPair(a, b);
        }

        private boolean fitInOneLeaf(int a, int b, int leafSize) {
            return nodes.isLeaf(a) && nodes.isLeaf(b) && nodes.sizeOf(a) + nodes.sizeOf(b) <= leafSize;
        }

        void split(int rope, int position, int leafSize) {
            int node = rope;
            int at = position;
            int steps = 0;
            while (steps < path.length && steps < wentRight.length && liesInsideAPart(node, at)) {
                int width = nodes.sizeOf(nodes.leftOf(node));
                path[steps] = node;
                wentRight[steps] = at > width;
                node = at > width ? nodes.rightOf(node) : nodes.leftOf(node);
                at = at > width ? at - width : at;
                steps++;
            }
            splitHere(node, at);
            for (int i = steps - 1; i >= 0; i--) {
                if (wentRight[i]) {
                    first = join(nodes.leftOf(path[i]), first, leafSize);
                } else {
                    second = join(second, nodes.rightOf(path[i]), leafSize);
                }
            }
        }

        private boolean liesInsideAPart(int node, int at) {
            return nodes.isPair(node) && at > 0 && at < nodes.sizeOf(node)
                    && at != nodes.sizeOf(nodes.leftOf(node));
        }

        private void splitHere(int node, int at) {
            int size = nodes.sizeOf(node);
            if (at <= 0) {
                first = EMPTY;
                second = node;
            } else if (at >= size) {
                first = node;
                second = EMPTY;
            } else if (nodes.isPair(node)) {
                first = nodes.leftOf(node);
                second = nodes.rightOf(node);
            } else {
                first = nodes.newLeaf();
                nodes.appendCodes(first, node, 0, at);
                second = nodes.newLeaf();
                nodes.appendCodes(second, node, at, size);
            }
        }

        int ropeOfCodes(int[] codes, int count, int leafSize) {
            int leafCount = 0;
            int leaf = EMPTY;
            for (int i = 0; i < count && i < codes.length; i++) {
                if (leafCount < cutLeaves.length && (leaf == EMPTY || nodes.sizeOf(leaf) >= leafSize)) {
                    leaf = nodes.newLeaf();
                    cutLeaves[leafCount] = leaf;
                    leafCount++;
                }
                nodes.append(leaf, codes[i]);
            }
            return ropeOfLeaves(cutLeaves, leafCount);
        }

        int ropeOfLeaves(int[] leafNodes, int count) {
            return built(nodes, leafNodes, 0, count, 0);
        }

        private static int built(Nodes nodes, int[] leafNodes, int from, int count, int level) {
            if (count <= 0 || level > DEEPEST_BUILD || from < 0 || from >= leafNodes.length) {
                return EMPTY;
            }
            if (count == 1) {
                return leafNodes[from];
            }
            int half = (count + 1) / 2;
            int a = built(nodes, leafNodes, from, half, level + 1);
            int b = built(nodes, leafNodes, from + half, count - half, level + 1);
            return nodes.newPair(a, b);
        }

        boolean hasBalance(int rope) {
            int size = nodes.sizeOf(rope);
            int needed = 1;
            int following = 2;
            // The numbers are followed no further than any text is long: they would overflow.
            for (int level = 0; level < nodes.heightOf(rope) && needed <= MOST_CHARACTERS; level++) {
                int sum = needed + following;
                needed = following;
                following = sum;
            }
            return size == 0 || size >= needed;
        }

        int codeAt(int rope, int position) {
            int node = rope;
            int at = position;
            for (int level = 0; level < MOST_CHARACTERS && nodes.isPair(node); level++) {
                int width = nodes.sizeOf(nodes.leftOf(node));
                node = at < width ? nodes.leftOf(node) : nodes.rightOf(node);
                at = at < width ? at : at - width;
            }
            return nodes.codeOf(node, at);
        }

        int wayTo(int rope, int position) {
            int node = rope;
            int at = position;
            long number = 1;
            for (int level = 0; level < MOST_CHARACTERS && nodes.isPair(node); level++) {
                int width = nodes.sizeOf(nodes.leftOf(node));
                number = (2 * number + (at < width ? 0 : 1)) % WAY_MODULUS;
                node = at < width ? nodes.leftOf(node) : nodes.rightOf(node);
                at = at < width ? at : at - width;
            }
            return (int) number;
        }
    }

    /** A rope laid out flat: its characters, and its leaves with their levels. */
    private static final class View {
        private final int[] codes = new int[MOST_CHARACTERS];
        private final int[] leafNodes = new int[MOST_CHARACTERS];
        private final int[] starts = new int[MOST_CHARACTERS];
        private final int[] levels = new int[MOST_CHARACTERS];
        private final int[] waiting = new int[MOST_CHARACTERS];
        private final int[] waitingLevels = new int[MOST_CHARACTERS];
        private int codeCount = 0;
        private int leafCount = 0;

        void read(Nodes nodes, int rope) {
            codeCount = 0;
            leafCount = 0;
            int count = 0;
            int node = rope;
            int level = 0;
            for (int seen = 0; seen < MOST_NODES_OF_A_ROPE && node != EMPTY; seen++) {
                if (nodes.isPair(node) && count < waiting.length && count < waitingLevels.length) {
                    level++;
                    waiting[count] = nodes.rightOf(node);
                    waitingLevels[count] = level;
                    count++;
                    node = nodes.leftOf(node);
                } else {
                    addLeaf(nodes, node, level);
                    count--;
                    node = count >= 0 ? waiting[count] : EMPTY;
                    level = count >= 0 ? waitingLevels[count] : 0;
                }
            }
        }

        private void addLeaf(Nodes nodes, int leaf, int level) {
            if (leafCount >= MOST_CHARACTERS) {
                return;
            }
            leafNodes[leafCount] = leaf;
            starts[leafCount] = codeCount;
            levels[leafCount] = level;
            leafCount++;
            int size = nodes.sizeOf(leaf);
            for (int i = 0; i < size && codeCount < codes.length; i++) {
                codes[codeCount] = nodes.codeOf(leaf, i);
                codeCount++;
            }
        }

        int startOfLeaf(int leaf) {
            return leaf >= 0 && leaf < leafCount && leaf < starts.length ? starts[leaf] : codeCount;
        }

        int sizeOfLeaf(int leaf) {
            return startOfLeaf(leaf + 1) - startOfLeaf(leaf);
        }

        int levelOfLeaf(int leaf) {
            return leaf >= 0 && leaf < leafCount && leaf < levels.length ? levels[leaf] : 0;
        }

        int positionOf(int[] sought, int count, int from) {
            for (int position = from; position + count <= codeCount; position++) {
                if (standsAt(sought, count, position)) {
                    return position;
                }
            }
            return NONE;
        }

        private boolean standsAt(int[] sought, int count, int position) {
            if (position < 0 || count > sought.length || position + count > codes.length) {
                return false;
            }
            for (int i = 0; i < count; i++) {
                if (codes[position + i] != sought[i]) {
                    return false;
                }
            }
            return true;
        }

        int lineEndsBefore(int position) {
            int ends = 0;
            for (int i = 0; i < position && i < codeCount && i < codes.length; i++) {
                if (codes[i] == END_OF_LINE) {
                    ends++;
                }
            }
            return ends;
        }

        int startOfLine(int line) {
            if (line == 0) {
                return 0;
            }
            int ends = 0;
            for (int i = 0; i < codeCount && i < codes.length; i++) {
                if (codes[i] == END_OF_LINE) {
                    ends++;
                    if (ends == line) {
                        return i + 1;
                    }
                }
            }
            return NO_SUCH;
        }

        int firstDifference(View other) {
            int both = Math.min(codeCount, other.codeCount);
            for (int i = 0; i < both && i < codes.length && i < other.codes.length; i++) {
                if (codes[i] != other.codes[i]) {
                    return i;
                }
            }
            return codeCount == other.codeCount ? NONE : both;
        }

        long hashOfCodes(long start) {
            long hash = start;
            for (int i = 0; i < codeCount && i < codes.length; i++) {
                hash = 31 * hash + codes[i];
            }
            return hash;
        }
    }

    /** All that undo() restores. */
    private static final class State {
        private final int[] marks = new int[MARKS];
        private final int[] ringRopes = new int[RING];
        private int ringCount = 0;
        private int leafSize = FIRST_LEAF_SIZE;
        private int balancing = 1;
        private int text = EMPTY;
        private int countedBuilds = 0;

        State() {
            Arrays.fill(marks, NONE);
        }

        void takeFrom(State other) {
            System.arraycopy(other.marks, 0, marks, 0, MARKS);
            System.arraycopy(other.ringRopes, 0, ringRopes, 0, RING);
            ringCount = other.ringCount;
            leafSize = other.leafSize;
            balancing = other.balancing;
            text = other.text;
            countedBuilds = other.countedBuilds;
        }

        boolean hasInRing(int number) {
            return number >= 0 && number < ringCount;
        }

        int ropeOfRing(int number) {
            return hasInRing(number) && number < ringRopes.length ? ringRopes[number] : EMPTY;
        }

        void addToRing(int rope) {
            for (int i = ringRopes.length - 1; i > 0; i--) {
                ringRopes[i] = ringRopes[i - 1];
            }
            ringRopes[0] = rope;
            ringCount = Math.min(ringCount + 1, RING);
        }

        int markAt(int number) {
            return number >= 0 && number < marks.length ? marks[number] : NONE;
        }

        void putMark(int number, int position) {
            if (number >= 0 && number < marks.length) {
                marks[number] = position;
            }
        }

        // A mark that is not set is below every position, so none of these three moves it.
        void moveMarksOn(int position, int count) {
            for (int i = 0; i < marks.length; i++) {
                if (marks[i] >= position) {
                    marks[i] += count;
                }
            }
        }

        void moveMarksBack(int from, int to) {
            for (int i = 0; i < marks.length; i++) {
                if (marks[i] > to) {
                    marks[i] -= to - from;
                } else if (marks[i] >= from) {
                    marks[i] = from;
                }
            }
        }

        void lowerMarks(int highest) {
            for (int i = 0; i < marks.length; i++) {
                marks[i] = Math.min(marks[i], highest);
            }
        }
    }

    /** The saved states; the rows of a discarded one are used again for the next. */
    private static final class History {
        private final State[] states = new State[SAVED_STATES];
        private int oldest = 0;
        private int count = 0;

        History() {
            for (int i = 0; i < states.length; i++) {
                states[i] = new State();
            }
        }

        State savedState(int number) {
            int slot = Math.floorMod(oldest + number, SAVED_STATES);
            return slot < states.length ? states[slot] : null;
        }

        void save(State state) {
            if (count == SAVED_STATES) {
                oldest = (oldest + 1) % SAVED_STATES;
                count--;
            }
            State slot = savedState(count);
            if (slot != null) {
                slot.takeFrom(state);
                count++;
            }
        }

        boolean restore(State state) {
            State last = savedState(count - 1);
            if (count == 0 || last == null) {
                return false;
            }
            state.takeFrom(last);
            count--;
            return true;
        }
    }
}
