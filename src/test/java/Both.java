/** Makes each call on the class and on the model, and compares the answers and then the digests. */
final class Both {
    private static final int MOST_TOLD = 60;

    final TextRopes x = new TextRopes();
    final Model m = new Model();
    private final Check check;
    private final java.util.ArrayDeque<String> done = new java.util.ArrayDeque<>();
    private boolean told = false;

    Both(Check check) {
        this.check = check;
    }

    private int same(String call, int got, int want) {
        done.add(call);
        if (done.size() > MOST_TOLD) {
            done.remove();
        }
        check.due(call, got, want);
        check.due("digest() after " + call, x.digest(), m.digest());
        if (check.wrongAnswers() > 0 && !told) {
            told = true;
            System.out.println("the last calls: " + String.join("; ", done));
        }
        return want;
    }

    private static String told(String name, int... arguments) {
        StringBuilder text = new StringBuilder(name).append('(');
        for (int i = 0; i < arguments.length; i++) {
            text.append(i == 0 ? "" : ", ").append(arguments[i]);
        }
        return text.append(')').toString();
    }

    int setLeafSize(int size) {
        return same(told("setLeafSize", size), x.setLeafSize(size), m.setLeafSize(size));
    }

    int setBalancing(int on) {
        return same(told("setBalancing", on), x.setBalancing(on), m.setBalancing(on));
    }

    int type(int code) {
        return same(told("type", code), x.type(code), m.type(code));
    }

    void type(String text) {
        for (int i = 0; i < text.length(); i++) {
            type(text.charAt(i));
        }
    }

    int clearBuffer() {
        return same("clearBuffer()", x.clearBuffer(), m.clearBuffer());
    }

    int insert(int position) {
        return same(told("insert", position), x.insert(position), m.insert(position));
    }

    int delete(int from, int to) {
        return same(told("delete", from, to), x.delete(from, to), m.delete(from, to));
    }

    int cut(int from, int to) {
        return same(told("cut", from, to), x.cut(from, to), m.cut(from, to));
    }

    int copy(int from, int to) {
        return same(told("copy", from, to), x.copy(from, to), m.copy(from, to));
    }

    int paste(int position, int rope) {
        return same(told("paste", position, rope), x.paste(position, rope), m.paste(position, rope));
    }

    int move(int from, int to, int position) {
        return same(told("move", from, to, position), x.move(from, to, position), m.move(from, to, position));
    }

    int replaceAll() {
        return same("replaceAll()", x.replaceAll(), m.replaceAll());
    }

    int build() {
        return same("build()", x.build(), m.build());
    }

    int pack() {
        return same("pack()", x.pack(), m.pack());
    }

    int setMark(int mark, int position) {
        return same(told("setMark", mark, position), x.setMark(mark, position), m.setMark(mark, position));
    }

    int keep(int version) {
        return same(told("keep", version), x.keep(version), m.keep(version));
    }

    int goBack(int version) {
        return same(told("goBack", version), x.goBack(version), m.goBack(version));
    }

    int difference(int version) {
        return same(told("difference", version), x.difference(version), m.difference(version));
    }

    int undo() {
        return same("undo()", x.undo(), m.undo());
    }

    void askAboutText() {
        same("length()", x.length(), m.length());
        same("depth()", x.depth(), m.depth());
        same("leaves()", x.leaves(), m.leaves());
        same("isBalanced()", x.isBalanced(), m.isBalanced());
        same("builds()", x.builds(), m.builds());
        same("lines()", x.lines(), m.lines());
        same("ring()", x.ring(), m.ring());
    }

    void askAt(int position) {
        same(told("character", position), x.character(position), m.character(position));
        same(told("way", position), x.way(position), m.way(position));
        same(told("find", position), x.find(position), m.find(position));
        same(told("lineOf", position), x.lineOf(position), m.lineOf(position));
    }

    void askLeaf(int leaf, int what) {
        same(told("leaf", leaf, what), x.leaf(leaf, what), m.leaf(leaf, what));
    }

    void askLine(int line) {
        same(told("lineStart", line), x.lineStart(line), m.lineStart(line));
    }

    void askMark(int mark) {
        same(told("mark", mark), x.mark(mark), m.mark(mark));
    }

    void askRing(int rope, int what) {
        same(told("ofRing", rope, what), x.ofRing(rope, what), m.ofRing(rope, what));
    }

    void askRingCharacter(int rope, int position) {
        same(told("ringCharacter", rope, position), x.ringCharacter(rope, position), m.ringCharacter(rope, position));
    }
}
