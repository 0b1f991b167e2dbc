import java.util.ArrayList;
import java.util.Arrays;
import java.util.List;

/** The document once more, word by word and without care for room or depth, to compare answers with. */
final class Model {
    static final int NO_SUCH = -1;
    static final int BAD_VALUE = -2;
    static final int NOT_POSSIBLE = -3;
    static final int LIMIT = -4;
    static final int NONE = -5;

    /** A rope that is not empty; the empty rope is null. */
    static final class Rope {
        final String leaf;
        final Rope left;
        final Rope right;
        final int length;
        final int depth;

        Rope(String leaf) {
            this.leaf = leaf;
            this.left = null;
            this.right = null;
            this.length = leaf.length();
            this.depth = 0;
        }

        Rope(Rope left, Rope right) {
            this.leaf = null;
            this.left = left;
            this.right = right;
            this.length = left.length + right.length;
            this.depth = 1 + Math.max(left.depth, right.depth);
        }

        boolean isLeaf() {
            return leaf != null;
        }
    }

    static final class State {
        int leafSize = 8;
        int balancing = 1;
        Rope text = null;
        int builds = 0;
        int[] marks = {NONE, NONE, NONE, NONE};
        List<Rope> ring = new ArrayList<>();

        State copied() {
            State other = new State();
            other.leafSize = leafSize;
            other.balancing = balancing;
            other.text = text;
            other.builds = builds;
            other.marks = marks.clone();
            other.ring = new ArrayList<>(ring);
            return other;
        }
    }

    private State s = new State();
    private final List<State> saved = new ArrayList<>();
    private String buffer = "";
    private final Rope[] versions = new Rope[3];
    private final boolean[] kept = new boolean[3];

    // ---- ropes

    static int lengthOf(Rope r) {
        return r == null ? 0 : r.length;
    }

    static String textOf(Rope r) {
        if (r == null) {
            return "";
        }
        return r.isLeaf() ? r.leaf : textOf(r.left) + textOf(r.right);
    }

    static List<Rope> leavesOf(Rope r) {
        List<Rope> list = new ArrayList<>();
        addLeaves(r, 0, list, new ArrayList<>());
        return list;
    }

    static List<Integer> levelsOf(Rope r) {
        List<Integer> levels = new ArrayList<>();
        addLeaves(r, 0, new ArrayList<>(), levels);
        return levels;
    }

    private static void addLeaves(Rope r, int level, List<Rope> list, List<Integer> levels) {
        if (r == null) {
            return;
        }
        if (r.isLeaf()) {
            list.add(r);
            levels.add(level);
            return;
        }
        addLeaves(r.left, level + 1, list, levels);
        addLeaves(r.right, level + 1, list, levels);
    }

    static Rope built(List<Rope> leaves) {
        int n = leaves.size();
        if (n == 0) {
            return null;
        }
        if (n == 1) {
            return leaves.get(0);
        }
        int half = (n + 1) / 2;
        return new Rope(built(leaves.subList(0, half)), built(leaves.subList(half, n)));
    }

    private Rope made(String text) {
        List<Rope> leaves = new ArrayList<>();
        for (int i = 0; i < text.length(); i += s.leafSize) {
            leaves.add(new Rope(text.substring(i, Math.min(text.length(), i + s.leafSize))));
        }
        return built(leaves);
    }

    private boolean together(Rope a, Rope b) {
        return a.isLeaf() && b.isLeaf() && a.length + b.length <= s.leafSize;
    }

    private Rope join(Rope a, Rope b) {
        if (a == null) {
            return b;
        }
        if (b == null) {
            return a;
        }
        if (together(a, b)) {
            return new Rope(a.leaf + b.leaf);
        }
        if (!a.isLeaf() && together(a.right, b)) {
            return new Rope(a.left, new Rope(a.right.leaf + b.leaf));
        }
        if (!b.isLeaf() && together(a, b.left)) {
            return new Rope(new Rope(a.leaf + b.left.leaf), b.right);
        }
        return new Rope(a, b);
    }

    private Rope[] split(Rope r, int k) {
        if (k == 0) {
            return new Rope[] {null, r};
        }
        if (k == r.length) {
            return new Rope[] {r, null};
        }
        if (r.isLeaf()) {
            return new Rope[] {new Rope(r.leaf.substring(0, k)), new Rope(r.leaf.substring(k))};
        }
        int w = r.left.length;
        if (k == w) {
            return new Rope[] {r.left, r.right};
        }
        if (k < w) {
            Rope[] parts = split(r.left, k);
            return new Rope[] {parts[0], join(parts[1], r.right)};
        }
        Rope[] parts = split(r.right, k - w);
        return new Rope[] {join(r.left, parts[0]), parts[1]};
    }

    static boolean balanced(Rope r) {
        if (r == null) {
            return true;
        }
        double a = 1;
        double b = 1;
        for (int i = 0; i < r.depth; i++) {
            double c = a + b;
            a = b;
            b = c;
        }
        return r.length >= b;
    }

    // ---- changes

    private void save() {
        saved.add(s.copied());
        if (saved.size() > 6) {
            saved.remove(0);
        }
    }

    private void putIn(int k, Rope r) {
        Rope[] parts = split(s.text, k);
        s.text = join(join(parts[0], r), parts[1]);
        for (int i = 0; i < 4; i++) {
            if (s.marks[i] != NONE && s.marks[i] >= k) {
                s.marks[i] += lengthOf(r);
            }
        }
    }

    private Rope takeOut(int a, int b) {
        Rope[] one = split(s.text, a);
        Rope[] two = split(one[1], b - a);
        s.text = join(one[0], two[1]);
        for (int i = 0; i < 4; i++) {
            if (s.marks[i] != NONE && s.marks[i] > b) {
                s.marks[i] -= b - a;
            } else if (s.marks[i] != NONE && s.marks[i] >= a) {
                s.marks[i] = a;
            }
        }
        return two[0];
    }

    private void balance() {
        if (s.balancing == 1 && !balanced(s.text)) {
            s.text = built(leavesOf(s.text));
            s.builds++;
        }
    }

    private void toRing(Rope r) {
        s.ring.add(0, r);
        if (s.ring.size() > 4) {
            s.ring.remove(4);
        }
    }

    private boolean noPosition(int p) {
        return p < 0 || p > length();
    }

    private boolean noRope(int r) {
        return r < 0 || r >= s.ring.size();
    }

    // ---- the face

    int setLeafSize(int size) {
        if (size < 2 || size > 16) {
            return BAD_VALUE;
        }
        save();
        int old = s.leafSize;
        s.leafSize = size;
        return old;
    }

    int setBalancing(int on) {
        if (on != 1 && on != 0) {
            return BAD_VALUE;
        }
        save();
        int old = s.balancing;
        s.balancing = on;
        return old;
    }

    int type(int code) {
        if (!(code == 10 || code >= 32 && code <= 126)) {
            return BAD_VALUE;
        }
        if (buffer.length() == 40) {
            return LIMIT;
        }
        buffer += (char) code;
        return buffer.length();
    }

    int clearBuffer() {
        int old = buffer.length();
        buffer = "";
        return old;
    }

    int insert(int position) {
        if (noPosition(position)) {
            return NO_SUCH;
        }
        if (buffer.isEmpty()) {
            return NOT_POSSIBLE;
        }
        if (length() + buffer.length() > 400) {
            return LIMIT;
        }
        save();
        putIn(position, made(buffer));
        buffer = "";
        balance();
        return length();
    }

    private int pieceCode(int from, int to) {
        if (noPosition(from) || noPosition(to)) {
            return NO_SUCH;
        }
        return to > from ? 0 : BAD_VALUE;
    }

    int delete(int from, int to) {
        int code = pieceCode(from, to);
        if (code != 0) {
            return code;
        }
        save();
        takeOut(from, to);
        balance();
        return length();
    }

    int cut(int from, int to) {
        int code = pieceCode(from, to);
        if (code != 0) {
            return code;
        }
        save();
        toRing(takeOut(from, to));
        balance();
        return length();
    }

    int copy(int from, int to) {
        int code = pieceCode(from, to);
        if (code != 0) {
            return code;
        }
        save();
        Rope m = split(split(s.text, from)[1], to - from)[0];
        toRing(m);
        return leavesOf(m).size();
    }

    int paste(int position, int rope) {
        if (noPosition(position) || noRope(rope)) {
            return NO_SUCH;
        }
        if (length() + s.ring.get(rope).length > 400) {
            return LIMIT;
        }
        save();
        putIn(position, s.ring.get(rope));
        balance();
        return length();
    }

    int move(int from, int to, int position) {
        int code = pieceCode(from, to);
        if (code != 0) {
            return code;
        }
        if (position < 0 || position > length() - (to - from)) {
            return BAD_VALUE;
        }
        save();
        putIn(position, takeOut(from, to));
        balance();
        return position + (to - from);
    }

    int replaceAll() {
        if (buffer.isEmpty() || s.ring.isEmpty()) {
            return NOT_POSSIBLE;
        }
        Rope r = s.ring.get(0);
        State before = s.copied();
        int count = 0;
        int from = 0;
        // Nothing here keeps the text short in between; only its end is held against the limit.
        for (int at = textOf(s.text).indexOf(buffer, from); at >= 0; at = textOf(s.text).indexOf(buffer, from)) {
            takeOut(at, at + buffer.length());
            putIn(at, r);
            from = at + r.length;
            count++;
        }
        if (length() > 400) {
            s = before;
            return LIMIT;
        }
        State after = s;
        s = before;
        save();
        s = after;
        if (count > 0) {
            balance();
        }
        return count;
    }

    int build() {
        save();
        s.text = built(leavesOf(s.text));
        return depth();
    }

    int pack() {
        save();
        s.text = made(textOf(s.text));
        return leaves();
    }

    int length() {
        return lengthOf(s.text);
    }

    int depth() {
        return s.text == null ? 0 : s.text.depth;
    }

    int leaves() {
        return leavesOf(s.text).size();
    }

    int isBalanced() {
        return balanced(s.text) ? 1 : 0;
    }

    int builds() {
        return s.builds;
    }

    int character(int position) {
        return position < 0 || position >= length() ? NO_SUCH : textOf(s.text).charAt(position);
    }

    int leaf(int leaf, int what) {
        List<Rope> list = leavesOf(s.text);
        if (leaf < 0 || leaf >= list.size()) {
            return NO_SUCH;
        }
        if (what < 0 || what > 2) {
            return BAD_VALUE;
        }
        if (what == 0) {
            int start = 0;
            for (int i = 0; i < leaf; i++) {
                start += list.get(i).length;
            }
            return start;
        }
        return what == 1 ? list.get(leaf).length : levelsOf(s.text).get(leaf);
    }

    int way(int position) {
        if (position < 0 || position >= length()) {
            return NO_SUCH;
        }
        java.math.BigInteger number = java.math.BigInteger.ONE;
        int at = position;
        for (Rope r = s.text; !r.isLeaf(); ) {
            boolean right = at >= r.left.length;
            number = number.shiftLeft(1).add(right ? java.math.BigInteger.ONE : java.math.BigInteger.ZERO);
            at = right ? at - r.left.length : at;
            r = right ? r.right : r.left;
        }
        return number.mod(java.math.BigInteger.valueOf(1000000007)).intValue();
    }

    int find(int from) {
        if (noPosition(from)) {
            return NO_SUCH;
        }
        if (buffer.isEmpty()) {
            return NOT_POSSIBLE;
        }
        int at = textOf(s.text).indexOf(buffer, from);
        return at < 0 ? NONE : at;
    }

    int lines() {
        return 1 + (int) textOf(s.text).chars().filter(c -> c == 10).count();
    }

    int lineStart(int line) {
        if (line < 0 || line >= lines()) {
            return NO_SUCH;
        }
        int start = 0;
        for (int i = 0; i < line; i++) {
            start = textOf(s.text).indexOf('\n', start) + 1;
        }
        return start;
    }

    int lineOf(int position) {
        if (noPosition(position)) {
            return NO_SUCH;
        }
        return (int) textOf(s.text).substring(0, position).chars().filter(c -> c == 10).count();
    }

    int setMark(int mark, int position) {
        if (mark < 0 || mark > 3 || noPosition(position)) {
            return NO_SUCH;
        }
        save();
        int old = s.marks[mark];
        s.marks[mark] = position;
        return old;
    }

    int mark(int mark) {
        return mark < 0 || mark > 3 ? NO_SUCH : s.marks[mark];
    }

    int ring() {
        return s.ring.size();
    }

    int ofRing(int rope, int what) {
        if (noRope(rope)) {
            return NO_SUCH;
        }
        if (what < 0 || what > 2) {
            return BAD_VALUE;
        }
        Rope r = s.ring.get(rope);
        return what == 0 ? r.length : what == 1 ? r.depth : leavesOf(r).size();
    }

    int ringCharacter(int rope, int position) {
        if (noRope(rope) || position < 0 || position >= s.ring.get(rope).length) {
            return NO_SUCH;
        }
        return textOf(s.ring.get(rope)).charAt(position);
    }

    int keep(int version) {
        if (version < 0 || version > 2) {
            return NO_SUCH;
        }
        versions[version] = s.text;
        kept[version] = true;
        return length();
    }

    int goBack(int version) {
        if (version < 0 || version > 2) {
            return NO_SUCH;
        }
        if (!kept[version]) {
            return NOT_POSSIBLE;
        }
        save();
        s.text = versions[version];
        for (int i = 0; i < 4; i++) {
            if (s.marks[i] > length()) {
                s.marks[i] = length();
            }
        }
        return length();
    }

    int difference(int version) {
        if (version < 0 || version > 2) {
            return NO_SUCH;
        }
        if (!kept[version]) {
            return NOT_POSSIBLE;
        }
        int at = Arrays.mismatch(textOf(s.text).toCharArray(), textOf(versions[version]).toCharArray());
        return at < 0 ? NONE : at;
    }

    int undo() {
        if (saved.isEmpty()) {
            return NOT_POSSIBLE;
        }
        s = saved.remove(saved.size() - 1);
        return saved.size();
    }

    long digest() {
        List<Long> list = new ArrayList<>();
        list.add((long) length());
        list.add((long) depth());
        list.add((long) leaves());
        list.add((long) isBalanced());
        list.add((long) builds());
        List<Rope> leaves = leavesOf(s.text);
        List<Integer> levels = levelsOf(s.text);
        for (int i = 0; i < leaves.size(); i++) {
            list.add((long) leaves.get(i).length);
            list.add((long) levels.get(i));
        }
        textOf(s.text).chars().forEach(c -> list.add((long) c));
        list.add((long) lines());
        for (int m : s.marks) {
            list.add((long) m);
        }
        list.add((long) ring());
        for (int i = 0; i < ring(); i++) {
            for (int what = 0; what < 3; what++) {
                list.add((long) ofRing(i, what));
            }
            textOf(s.ring.get(i)).chars().forEach(c -> list.add((long) c));
        }
        long hash = 155;
        for (long v : list) {
            hash = 31 * hash + v;
        }
        return hash;
    }
}
