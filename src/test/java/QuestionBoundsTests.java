/** The bounds that promises 15 to 26 name: all that can be asked about empty, ordinary and full texts. */
public final class QuestionBoundsTests {
    private static final Check CHECK = new Check("QuestionBoundsTests");
    private static final int NO_SUCH = TextRopes.NO_SUCH;
    private static final int BAD_VALUE = TextRopes.BAD_VALUE;
    private static final int NOT_POSSIBLE = TextRopes.NOT_POSSIBLE;
    private static final int NONE = TextRopes.NONE;

    private static Bounds[] editors;

    public static void main(String[] args) {
        editors = Editors.all(CHECK);
        counts();
        characterPositions();
        leafNumbers();
        leafWhats();
        leavesOfFullText();
        wayPositions();
        findPositions();
        findCodesInOrder();
        findAtTheEnds();
        findFullBuffer();
        lineCounts();
        lineNumbers();
        linePositions();
        CHECK.end();
    }

    private static void counts() {
        CHECK.promise("promises 15 to 19, the counts of empty and full texts");
        int[][] due = {{0, 0, 0, 1, 0}, {9, 1, 2, 1, 0}, {400, 11, 147, 1, 0}, {0, 0, 0, 1, 0}, {400, 11, 147, 1, 0}};
        for (int i = 0; i < editors.length; i++) {
            editors[i].asked("length()", TextRopes::length, due[i][0]);
            editors[i].asked("depth()", TextRopes::depth, due[i][1]);
            editors[i].asked("leaves()", TextRopes::leaves, due[i][2]);
            editors[i].asked("isBalanced()", TextRopes::isBalanced, due[i][3]);
            editors[i].asked("builds()", TextRopes::builds, due[i][4]);
        }
        TextRopes x = new TextRopes();
        x.setLeafSize(2);
        CHECK.due("a text of one", Texts.insert(x, 0, "a"), 1);
        CHECK.due("depth() of one leaf", x.depth(), 0);
        CHECK.due("leaves() of one leaf", x.leaves(), 1);
        x.delete(0, 1);
        CHECK.due("leaves() of a text that is empty again", x.leaves(), 0);
        CHECK.due("isBalanced() of a text that is empty again", x.isBalanced(), 1);
    }

    private static void characterPositions() {
        CHECK.promise("promise 20, position is 0 to the length of the text minus 1");
        for (Bounds b : editors) {
            int length = b.length();
            for (int bad : Bounds.outside(0, length - 1)) {
                b.refused("character(" + bad + ")", x -> x.character(bad), NO_SUCH);
            }
        }
        Bounds some = Editors.some(CHECK);
        some.asked("character(0)", x -> x.character(0), 'a');
        some.asked("character(8)", x -> x.character(8), 'i');
        some.refused("character(9), the length", x -> x.character(9), NO_SUCH);
        Bounds full = Editors.full(CHECK);
        full.asked("character(0)", x -> x.character(0), 'a');
        full.asked("character(399)", x -> x.character(399), 'i');
        full.refused("character(400), the length", x -> x.character(400), NO_SUCH);
        Editors.emptied(CHECK).refused("character(0) of an empty text", x -> x.character(0), NO_SUCH);
    }

    private static void leafNumbers() {
        CHECK.promise("promise 21, NO_SUCH if there is no such leaf");
        for (Bounds b : editors) {
            int leaves = b.editor().leaves();
            for (int bad : Bounds.outside(0, leaves - 1)) {
                for (int what = 0; what < 3; what++) {
                    int asked = what;
                    b.refused("leaf(" + bad + ", " + what + ")", x -> x.leaf(bad, asked), NO_SUCH);
                }
                b.refused("leaf(" + bad + ", 3)", x -> x.leaf(bad, 3), NO_SUCH);
                b.refused("leaf(" + bad + ", -1)", x -> x.leaf(bad, -1), NO_SUCH);
                b.refused("leaf(" + bad + ", the same)", x -> x.leaf(bad, bad), NO_SUCH);
            }
        }
    }

    private static void leafWhats() {
        CHECK.promise("promise 21, BAD_VALUE if what is out of range");
        for (Bounds b : new Bounds[] {Editors.some(CHECK), Editors.full(CHECK)}) {
            int last = b.editor().leaves() - 1;
            for (int bad : Bounds.outside(0, 2)) {
                b.refused("leaf(0, " + bad + ")", x -> x.leaf(0, bad), BAD_VALUE);
                b.refused("leaf of the last, " + bad, x -> x.leaf(last, bad), BAD_VALUE);
            }
        }
        int[][] due = {{0, 8, 1}, {8, 1, 1}};
        for (int leaf = 0; leaf < due.length; leaf++) {
            int asked = leaf;
            for (int what = 0; what < 3; what++) {
                int about = what;
                Editors.some(CHECK).asked("leaf(" + leaf + ", " + what + ")", x -> x.leaf(asked, about), due[leaf][what]);
            }
        }
    }

    private static void leavesOfFullText() {
        CHECK.promise("promise 21, the most leaves and the largest ones");
        TextRopes x = Texts.holding(Texts.repeated("ab", 200));
        x.setLeafSize(2);
        x.pack();
        CHECK.due("start of the last of 200", x.leaf(199, 0), 398);
        CHECK.due("size of the last of 200", x.leaf(199, 1), 2);
        CHECK.due("level of the last of 200", x.leaf(199, 2), 7);
        CHECK.due("level of the first of 200", x.leaf(0, 2), 8);
        CHECK.due("leaf(200, 0)", x.leaf(200, 0), NO_SUCH);
        x.setLeafSize(16);
        x.pack();
        CHECK.due("start of the last of 25", x.leaf(24, 0), 384);
        CHECK.due("size of the last of 25", x.leaf(24, 1), 16);
        CHECK.due("leaf(25, 0)", x.leaf(25, 0), NO_SUCH);
        x.delete(1, 400);
        CHECK.due("size of a leaf of one", x.leaf(0, 1), 1);
        CHECK.due("level of a leaf that is all", x.leaf(0, 2), 0);
        CHECK.due("leaf(1, 0)", x.leaf(1, 0), NO_SUCH);
    }

    private static void wayPositions() {
        CHECK.promise("promise 22, position is 0 to the length of the text minus 1");
        for (Bounds b : editors) {
            int length = b.length();
            for (int bad : Bounds.outside(0, length - 1)) {
                b.refused("way(" + bad + ")", x -> x.way(bad), NO_SUCH);
            }
        }
        Bounds some = Editors.some(CHECK);
        some.asked("way(0)", x -> x.way(0), 2);
        some.asked("way(7), the last of the left part", x -> x.way(7), 2);
        some.asked("way(8), the first of the right part", x -> x.way(8), 3);
        some.refused("way(9), the length", x -> x.way(9), NO_SUCH);
        Bounds leaf = new Bounds(CHECK, "one leaf", () -> Texts.holding("ab"));
        leaf.asked("way(0) in no pair", x -> x.way(0), 1);
        leaf.asked("way(1) in no pair", x -> x.way(1), 1);
        leaf.refused("way(2), the length", x -> x.way(2), NO_SUCH);
        wayAtTheModulus();
    }

    /** The way to the first leaf of a text that is deep on the left is a power of 2, also beyond the modulus. */
    private static void wayAtTheModulus() {
        TextRopes x = new TextRopes();
        x.setBalancing(0);
        x.setLeafSize(2);
        long power = 1;
        for (int depth = 0; depth < 70; depth++) {
            Texts.insert(x, x.length(), depth % 2 == 0 ? "ab" : "c");
            CHECK.due("depth()", x.depth(), depth);
            CHECK.due("way(0) at depth " + depth, x.way(0), power);
            power = 2 * power % 1000000007L;
        }
        TextRopes y = new TextRopes();
        y.setBalancing(0);
        y.setLeafSize(2);
        long ones = 1;
        for (int depth = 0; depth < 70; depth++) {
            Texts.insert(y, 0, depth % 2 == 0 ? "ab" : "c");
            CHECK.due("way of the last one at depth " + depth, y.way(y.length() - 1), ones);
            ones = (2 * ones + 1) % 1000000007L;
        }
    }

    private static void findPositions() {
        CHECK.promise("promise 23, from is 0 to the length of the text");
        for (Bounds b : editors) {
            for (int bad : Bounds.outside(0, b.length())) {
                b.refused("find(" + bad + ")", x -> x.find(bad), NO_SUCH);
            }
        }
        Bounds some = Editors.some(CHECK);
        some.asked("find(0)", x -> x.find(0), 3);
        some.asked("find(3), where it begins", x -> x.find(3), 3);
        some.asked("find(4), behind where it begins", x -> x.find(4), NONE);
        some.asked("find(9), the length", x -> x.find(9), NONE);
        Editors.full(CHECK).asked("find(400), the length", x -> x.find(400), NONE);
        Editors.emptied(CHECK).asked("find(0) in an empty text", x -> x.find(0), NONE);
    }

    private static void findCodesInOrder() {
        CHECK.promise("promise 23, NO_SUCH before NOT_POSSIBLE");
        Bounds nothing = Editors.nothingTyped(CHECK);
        nothing.refused("find(0), nothing typed", x -> x.find(0), NOT_POSSIBLE);
        nothing.refused("find(400), nothing typed", x -> x.find(400), NOT_POSSIBLE);
        nothing.refused("find(401), nothing typed", x -> x.find(401), NO_SUCH);
        nothing.refused("find(-1), nothing typed", x -> x.find(-1), NO_SUCH);
        Bounds fresh = Editors.fresh(CHECK);
        fresh.refused("find(0), nothing typed", x -> x.find(0), NOT_POSSIBLE);
        fresh.refused("find(1), nothing typed", x -> x.find(1), NO_SUCH);
    }

    private static void findAtTheEnds() {
        CHECK.promise("promise 23, the first occurrence, at both ends");
        TextRopes x = Texts.holding("abcab");
        Texts.type(x, "ab");
        int[] due = {0, 3, 3, 3, NONE, NONE};
        for (int from = 0; from < due.length; from++) {
            CHECK.due("find(" + from + ")", x.find(from), due[from]);
        }
        Texts.type(x, "c");
        CHECK.due("find(0) of three", x.find(0), 0);
        CHECK.due("find(1) of what would end beyond the text", x.find(1), NONE);
        Texts.type(x, "ab");
        CHECK.due("find(0) of the whole text", x.find(0), 0);
        CHECK.due("find(1) of the whole text", x.find(1), NONE);
        Texts.type(x, "a");
        CHECK.due("find(0) of more than the text", x.find(0), NONE);
    }

    private static void findFullBuffer() {
        CHECK.promise("promise 23, a full buffer in a full text");
        String forty = Texts.repeated("ab", 19) + "~\n";
        TextRopes x = Texts.holding(Texts.repeated("ab", 180) + forty);
        Texts.type(x, forty);
        CHECK.due("length()", x.length(), 400);
        CHECK.due("find(0), it ends with the text", x.find(0), 360);
        CHECK.due("find(360)", x.find(360), 360);
        CHECK.due("find(361)", x.find(361), NONE);
        CHECK.due("find(400)", x.find(400), NONE);
        CHECK.due("clearBuffer()", x.clearBuffer(), 40);
        x.type('a');
        CHECK.due("find(396), where the last a stands", x.find(396), 396);
        CHECK.due("find(397), behind the last a", x.find(397), NONE);
        x.clearBuffer();
        x.type(10);
        CHECK.due("find(399) of the last one", x.find(399), 399);
        CHECK.due("find(400) behind the last one", x.find(400), NONE);
    }

    private static void lineCounts() {
        CHECK.promise("promise 24, lines of empty and full texts");
        int[] due = {1, 2, 22, 1, 22};
        for (int i = 0; i < editors.length; i++) {
            editors[i].asked("lines()", TextRopes::lines, due[i]);
        }
        Bounds ends = new Bounds(CHECK, "400 ends of lines", () -> Texts.holding(Texts.repeated("\n", 400)));
        ends.asked("lines()", TextRopes::lines, 401);
        CHECK.due("lines() of one end", Texts.holding("\n").lines(), 2);
        CHECK.due("lines() of an end at the beginning", Texts.holding("\na").lines(), 2);
        CHECK.due("lines() of an end at the end", Texts.holding("a\n").lines(), 2);
    }

    private static void lineNumbers() {
        CHECK.promise("promise 25, NO_SUCH if there is no such line");
        for (Bounds b : editors) {
            int lines = b.editor().lines();
            for (int bad : Bounds.outside(0, lines - 1)) {
                b.refused("lineStart(" + bad + ")", x -> x.lineStart(bad), NO_SUCH);
            }
            b.asked("lineStart(0)", x -> x.lineStart(0), 0);
        }
        Editors.some(CHECK).asked("lineStart(1), the last line", x -> x.lineStart(1), 3);
        TextRopes ends = Texts.holding(Texts.repeated("\n", 400));
        for (int line = 0; line <= 400; line += 40) {
            CHECK.due("lineStart(" + line + ") of ends alone", ends.lineStart(line), line);
        }
        CHECK.due("lineStart(401) of ends alone", ends.lineStart(401), NO_SUCH);
        TextRopes last = Texts.holding("a\n");
        CHECK.due("lineStart(1), an empty line at the end", last.lineStart(1), 2);
        CHECK.due("lineStart(2)", last.lineStart(2), NO_SUCH);
        last.delete(1, 2);
        CHECK.due("lineStart(1) of a line that is gone", last.lineStart(1), NO_SUCH);
        CHECK.due("lines() without it", last.lines(), 1);
        CHECK.due("lineOf(1) without it", last.lineOf(1), 0);
    }

    private static void linePositions() {
        CHECK.promise("promise 26, position is 0 to the length of the text");
        for (Bounds b : editors) {
            int lines = b.editor().lines();
            int length = b.length();
            for (int bad : Bounds.outside(0, length)) {
                b.refused("lineOf(" + bad + ")", x -> x.lineOf(bad), NO_SUCH);
            }
            b.asked("lineOf(0)", x -> x.lineOf(0), 0);
            b.asked("lineOf of the end", x -> x.lineOf(length), lines - 1);
        }
        Bounds some = Editors.some(CHECK);
        some.asked("lineOf(2), at the end of the line", x -> x.lineOf(2), 0);
        some.asked("lineOf(3), behind the end of the line", x -> x.lineOf(3), 1);
        TextRopes ends = Texts.holding(Texts.repeated("\n", 400));
        for (int position = 0; position <= 400; position += 40) {
            CHECK.due("lineOf(" + position + ") of ends alone", ends.lineOf(position), position);
        }
        CHECK.due("lineOf(401) of ends alone", ends.lineOf(401), NO_SUCH);
    }
}
