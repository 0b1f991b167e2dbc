/** Promises 15 to 26: all that can be asked about the text. */
public final class QuestionTests {
    private static final Check CHECK = new Check("QuestionTests");
    private static final int[] NO_POSITIONS = {-1, 10, Integer.MAX_VALUE, Integer.MIN_VALUE};

    public static void main(String[] args) {
        length();
        depth();
        leaves();
        isBalanced();
        builds();
        character();
        leaf();
        way();
        wayInTheDeep();
        find();
        lines();
        lineStart();
        lineOf();
        CHECK.end();
    }

    private static void length() {
        CHECK.promise("promise 15, length");
        TextRopes x = new TextRopes();
        CHECK.due("length()", x.length(), 0);
        Texts.type(x, "abc");
        CHECK.due("length() after typing", x.length(), 0);
        x.insert(0);
        CHECK.due("length()", x.length(), 3);
        x.delete(1, 2);
        CHECK.due("length()", x.length(), 2);
        CHECK.due("length() of the longest text", Texts.holding(Texts.repeated("a", 400)).length(), 400);
    }

    private static void depth() {
        CHECK.promise("promise 16, depth");
        TextRopes x = new TextRopes();
        CHECK.due("depth() of nothing", x.depth(), 0);
        Texts.insert(x, 0, "abcdefgh");
        CHECK.due("depth() of a leaf", x.depth(), 0);
        Texts.insert(x, 8, "i");
        CHECK.due("depth() of a pair", x.depth(), 1);
        CHECK.due("depth() of a spine", Texts.unbalanced().depth(), 5);
        x = Texts.unbalanced();
        Texts.insert(x, 0, "1");
        CHECK.due("the right part is the deeper one", x.depth(), 6);
    }

    private static void leaves() {
        CHECK.promise("promise 17, leaves");
        TextRopes x = new TextRopes();
        CHECK.due("leaves() of nothing", x.leaves(), 0);
        Texts.insert(x, 0, "abcdefgh");
        CHECK.due("leaves() of a leaf", x.leaves(), 1);
        Texts.insert(x, 8, "abcdefghijk");
        CHECK.due("leaves()", x.leaves(), 3);
        CHECK.due("leaves() of a spine", Texts.unbalanced().leaves(), 6);
    }

    /** A spine of the given leaves; its depth is one less than their number. */
    private static TextRopes spineOf(String... pieces) {
        TextRopes x = new TextRopes();
        x.setBalancing(0);
        for (String piece : pieces) {
            x.setLeafSize(Math.max(2, piece.length()));
            Texts.insert(x, x.length(), piece);
            x.setLeafSize(2);
        }
        return x;
    }

    private static void isBalanced() {
        CHECK.promise("promise 18, isBalanced");
        CHECK.due("isBalanced() of nothing", new TextRopes().isBalanced(), 1);
        CHECK.due("isBalanced() of one character", Texts.holding("a").isBalanced(), 1);
        // f(2) = 2, f(3) = 3, f(4) = 5, f(5) = 8, f(6) = 13: the fewest characters at depth 1 to 5.
        CHECK.due("3 at depth 1", spineOf("ab", "c").isBalanced(), 1);
        CHECK.due("5 at depth 2", spineOf("ab", "c", "de").isBalanced(), 1);
        CHECK.due("6 at depth 3", spineOf("ab", "c", "de", "f").isBalanced(), 1);
        CHECK.due("8 at depth 4", spineOf("ab", "c", "de", "f", "gh").isBalanced(), 1);
        CHECK.due("7 at depth 4", spineOf("a", "bc", "d", "ef", "g").isBalanced(), 0);
        CHECK.due("9 at depth 5", spineOf("ab", "c", "de", "f", "gh", "i").isBalanced(), 0);
        CHECK.due("12 at depth 5", spineOf("abc", "def", "g", "hi", "j", "kl").isBalanced(), 0);
        CHECK.due("13 at depth 5", spineOf("abcd", "efg", "h", "ij", "k", "lm").isBalanced(), 1);
        TextRopes x = Texts.unbalanced();
        x.pack();
        CHECK.due("after pack()", x.isBalanced(), 1);
    }

    private static void builds() {
        CHECK.promise("promise 19, builds");
        TextRopes x = new TextRopes();
        CHECK.due("builds()", x.builds(), 0);
        x.setLeafSize(2);
        int depthBefore = 0;
        int due = 0;
        for (int i = 0; i < 40; i++) {
            depthBefore = x.depth();
            Texts.insert(x, x.length(), i % 2 == 0 ? "ab" : "c");
            due += x.depth() < depthBefore ? 1 : 0;
            CHECK.due("isBalanced()", x.isBalanced(), 1);
        }
        CHECK.holds("that some builds came", due > 1);
        CHECK.due("builds()", x.builds(), due);
        x.build();
        x.pack();
        CHECK.due("builds() after build() and pack()", x.builds(), due);
    }

    private static void character() {
        CHECK.promise("promise 20, character");
        CHECK.due("character(0) of nothing", new TextRopes().character(0), TextRopes.NO_SUCH);
        TextRopes x = Texts.unbalanced();
        for (int i = 0; i < 9; i++) {
            CHECK.due("character(" + i + ")", x.character(i), 'a' + i);
        }
        for (int bad : new int[] {-1, 9, 10, Integer.MAX_VALUE, Integer.MIN_VALUE}) {
            CHECK.due("character(" + bad + ")", x.character(bad), TextRopes.NO_SUCH);
        }
        x = new TextRopes();
        x.setLeafSize(16);
        Texts.insert(x, 0, "0123456789ABCDEF\n~");
        CHECK.due("all of a leaf of 16", Texts.textOf(x), "0123456789ABCDEF\n~");
    }

    private static void leaf() {
        CHECK.promise("promise 21, leaf");
        CHECK.due("leaf(0, 0) of nothing", new TextRopes().leaf(0, 0), TextRopes.NO_SUCH);
        TextRopes x = Texts.unbalanced();
        int[][] due = {{0, 2, 5}, {2, 1, 5}, {3, 2, 4}, {5, 1, 3}, {6, 2, 2}, {8, 1, 1}};
        for (int leaf = 0; leaf < due.length; leaf++) {
            for (int what = 0; what < 3; what++) {
                CHECK.due("leaf(" + leaf + ", " + what + ")", x.leaf(leaf, what), due[leaf][what]);
            }
            CHECK.due("leaf(" + leaf + ", 3)", x.leaf(leaf, 3), TextRopes.BAD_VALUE);
            CHECK.due("leaf(" + leaf + ", -1)", x.leaf(leaf, -1), TextRopes.BAD_VALUE);
            CHECK.due("leaf(" + leaf + ", the highest)", x.leaf(leaf, Integer.MAX_VALUE), TextRopes.BAD_VALUE);
        }
        for (int bad : new int[] {-1, 6, Integer.MAX_VALUE, Integer.MIN_VALUE}) {
            CHECK.due("leaf(" + bad + ", 0)", x.leaf(bad, 0), TextRopes.NO_SUCH);
            CHECK.due("leaf(" + bad + ", 3)", x.leaf(bad, 3), TextRopes.NO_SUCH);
        }
    }

    private static void way() {
        CHECK.promise("promise 22, way");
        CHECK.due("way(0) of nothing", new TextRopes().way(0), TextRopes.NO_SUCH);
        CHECK.due("way(2) in a leaf", Texts.holding("abc").way(2), 1);
        TextRopes x = Texts.unbalanced();
        int[] due = {32, 32, 33, 17, 17, 9, 5, 5, 3};
        for (int i = 0; i < due.length; i++) {
            CHECK.due("way(" + i + ")", x.way(i), due[i]);
        }
        for (int bad : new int[] {-1, 9, 10, Integer.MAX_VALUE, Integer.MIN_VALUE}) {
            CHECK.due("way(" + bad + ")", x.way(bad), TextRopes.NO_SUCH);
        }
        x.build();
        int[] built = {8, 8, 9, 5, 5, 12, 13, 13, 7};
        for (int i = 0; i < built.length; i++) {
            CHECK.due("way(" + i + ") after build()", x.way(i), built[i]);
        }
    }

    /** At a depth above 30 the modulus counts: 2 to the 31st and beyond are no numbers below it. */
    private static void wayInTheDeep() {
        TextRopes x = new TextRopes();
        x.setBalancing(0);
        x.setLeafSize(2);
        for (int i = 0; i < 34; i++) {
            Texts.insert(x, x.length(), i % 2 == 0 ? "ab" : "c");
        }
        CHECK.due("depth()", x.depth(), 33);
        CHECK.due("way(0), 2 to the 33rd", x.way(0), (1L << 33) % 1000000007L);
        CHECK.due("way(2), one more", x.way(2), ((1L << 33) + 1) % 1000000007L);
        CHECK.due("way(9)", x.way(9), ((1L << 28) + 1) % 1000000007L);
        x = new TextRopes();
        x.setBalancing(0);
        x.setLeafSize(2);
        for (int i = 0; i < 34; i++) {
            Texts.insert(x, 0, i % 2 == 0 ? "ab" : "c");
        }
        CHECK.due("way of the last one, all to the right", x.way(x.length() - 1), ((1L << 34) - 1) % 1000000007L);
    }

    private static void find() {
        CHECK.promise("promise 23, find");
        TextRopes x = Texts.holding("abcabcabd");
        for (int bad : NO_POSITIONS) {
            CHECK.due("find(" + bad + ") with nothing typed", x.find(bad), TextRopes.NO_SUCH);
        }
        CHECK.due("find(0) with nothing typed", x.find(0), TextRopes.NOT_POSSIBLE);
        Texts.type(x, "ab");
        int[] due = {0, 3, 3, 3, 6, 6, 6, -5, -5, -5};
        for (int from = 0; from < due.length; from++) {
            CHECK.due("find(" + from + ")", x.find(from), due[from]);
        }
        for (int bad : NO_POSITIONS) {
            CHECK.due("find(" + bad + ")", x.find(bad), TextRopes.NO_SUCH);
        }
        Texts.type(x, "d");
        CHECK.due("find(0) at the end", x.find(0), 6);
        Texts.type(x, "x");
        CHECK.due("find(0) that would end beyond", x.find(0), TextRopes.NONE);
        CHECK.due("the buffer stays", x.clearBuffer(), 4);
        x = new TextRopes();
        Texts.type(x, "a");
        CHECK.due("find(0) in nothing", x.find(0), TextRopes.NONE);
        CHECK.due("find(1) in nothing", x.find(1), TextRopes.NO_SUCH);
        x = new TextRopes();
        x.setLeafSize(2);
        Texts.insert(x, 0, "aabaacaab");
        Texts.type(x, "aacaab");
        CHECK.due("find(0) over leaves", x.find(0), 3);
        x = Texts.holding("b" + Texts.repeated("a", 39) + "c");
        Texts.type(x, Texts.repeated("a", 39) + "c");
        CHECK.due("find(0) with a full buffer", x.find(0), 1);
        CHECK.due("find(1) with a full buffer", x.find(1), 1);
        CHECK.due("find(2) with a full buffer", x.find(2), TextRopes.NONE);
    }

    private static void lines() {
        CHECK.promise("promise 24, lines");
        CHECK.due("lines() of nothing", new TextRopes().lines(), 1);
        CHECK.due("lines()", Texts.holding("abc").lines(), 1);
        CHECK.due("lines()", Texts.holding("abc\n").lines(), 2);
        CHECK.due("lines()", Texts.holding("\n\na\n\n").lines(), 5);
        CHECK.due("lines() of 400 ends", Texts.holding(Texts.repeated("\n", 400)).lines(), 401);
    }

    private static void lineStart() {
        CHECK.promise("promise 25, lineStart");
        TextRopes x = Texts.holding("ab\n\ncd\n");
        int[] due = {0, 3, 4, 7};
        for (int line = 0; line < due.length; line++) {
            CHECK.due("lineStart(" + line + ")", x.lineStart(line), due[line]);
        }
        for (int bad : new int[] {-1, 4, 5, Integer.MAX_VALUE, Integer.MIN_VALUE}) {
            CHECK.due("lineStart(" + bad + ")", x.lineStart(bad), TextRopes.NO_SUCH);
        }
        CHECK.due("lineStart(0) of nothing", new TextRopes().lineStart(0), 0);
        CHECK.due("lineStart(1) of nothing", new TextRopes().lineStart(1), TextRopes.NO_SUCH);
        CHECK.due("lineStart(400)", Texts.holding(Texts.repeated("\n", 400)).lineStart(400), 400);
    }

    private static void lineOf() {
        CHECK.promise("promise 26, lineOf");
        TextRopes x = Texts.holding("ab\n\ncd\n");
        int[] due = {0, 0, 0, 1, 2, 2, 2, 3};
        for (int position = 0; position < due.length; position++) {
            CHECK.due("lineOf(" + position + ")", x.lineOf(position), due[position]);
        }
        for (int bad : new int[] {-1, 8, Integer.MAX_VALUE, Integer.MIN_VALUE}) {
            CHECK.due("lineOf(" + bad + ")", x.lineOf(bad), TextRopes.NO_SUCH);
        }
        CHECK.due("lineOf(0) of nothing", new TextRopes().lineOf(0), 0);
        CHECK.due("lineOf(1) of nothing", new TextRopes().lineOf(1), TextRopes.NO_SUCH);
    }
}
