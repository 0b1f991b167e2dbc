/** Promises 6 to 14: insert, delete, cut, copy, paste, move, replaceAll, build, pack. */
public final class ChangeTests {
    private static final Check CHECK = new Check("ChangeTests");
    private static final int[] NO_POSITIONS = {-1, 10, Integer.MAX_VALUE, Integer.MIN_VALUE};

    public static void main(String[] args) {
        insert();
        insertJoins();
        insertSplits();
        delete();
        cut();
        copy();
        paste();
        move();
        replaceAll();
        replaceAllEdges();
        build();
        pack();
        balanceAfterEachChange();
        CHECK.end();
    }

    private static void insert() {
        CHECK.promise("promise 6, insert");
        TextRopes x = new TextRopes();
        CHECK.due("insert(1) with nothing typed", x.insert(1), TextRopes.NO_SUCH);
        CHECK.due("insert(0) with nothing typed", x.insert(0), TextRopes.NOT_POSSIBLE);
        CHECK.due("undo() after refusals", x.undo(), TextRopes.NOT_POSSIBLE);
        CHECK.due("insert abc", Texts.insert(x, 0, "abc"), 3);
        CHECK.due("insert(0), the buffer is empty", x.insert(0), TextRopes.NOT_POSSIBLE);
        CHECK.due("insert X at 1", Texts.insert(x, 1, "X"), 4);
        CHECK.due("insert Y at the end", Texts.insert(x, 4, "Y"), 5);
        CHECK.due("insert Z at 0", Texts.insert(x, 0, "Z"), 6);
        CHECK.due("text", Texts.textOf(x), "ZaXbcY");
        Texts.type(x, "q");
        for (int position : new int[] {-1, 7, Integer.MAX_VALUE, Integer.MIN_VALUE}) {
            CHECK.due("insert(" + position + ")", x.insert(position), TextRopes.NO_SUCH);
        }
        CHECK.due("the buffer stays after a refusal", x.clearBuffer(), 1);
        CHECK.due("undo()", x.undo(), 3);
        CHECK.due("text after undo()", Texts.textOf(x), "aXbcY");
        CHECK.due("undo() leaves the buffer empty", x.clearBuffer(), 0);
        x = Texts.holding(Texts.repeated("a", 398));
        Texts.type(x, "xyz");
        CHECK.due("insert(0) to 401", x.insert(0), TextRopes.LIMIT);
        CHECK.due("insert(399) to 401", x.insert(399), TextRopes.NO_SUCH);
        CHECK.due("clearBuffer()", x.clearBuffer(), 3);
        CHECK.due("insert to 400", Texts.insert(x, 398, "xy"), 400);
        CHECK.due("insert(0) with nothing typed at 400", x.insert(0), TextRopes.NOT_POSSIBLE);
        insertMovesMarks();
    }

    private static void insertMovesMarks() {
        TextRopes x = Texts.holding("abcdef");
        x.setMark(0, 0);
        x.setMark(1, 2);
        x.setMark(2, 6);
        Texts.insert(x, 2, "12345");
        CHECK.due("marks", Texts.marksOf(x), "0 7 11 -5");
        x.undo();
        CHECK.due("marks after undo()", Texts.marksOf(x), "0 2 6 -5");
        Texts.insert(x, 3, "12345");
        CHECK.due("marks", Texts.marksOf(x), "0 2 11 -5");
        Texts.insert(x, 0, "1");
        CHECK.due("marks", Texts.marksOf(x), "1 3 12 -5");
    }

    private static void insertJoins() {
        CHECK.promise("promise 6, insert and joining");
        TextRopes x = new TextRopes();
        x.setLeafSize(4);
        Texts.insert(x, 0, "ab");
        Texts.insert(x, 2, "cd");
        CHECK.due("two leaves become one", Texts.shapeOf(x), "abcd@0");
        Texts.insert(x, 4, "e");
        CHECK.due("a full leaf stays", Texts.shapeOf(x), "abcd@1 e@1");
        Texts.insert(x, 5, "fgh");
        CHECK.due("the last leaf takes them", Texts.shapeOf(x), "abcd@1 efgh@1");
        x.setBalancing(0);
        Texts.insert(x, 8, "i");
        CHECK.due("no leaf takes it", Texts.shapeOf(x), "abcd@2 efgh@2 i@1");
        Texts.insert(x, 9, "jk");
        CHECK.due("the last leaf takes them", Texts.shapeOf(x), "abcd@2 efgh@2 ijk@1");
        Texts.insert(x, 0, "1");
        CHECK.due("in front of a pair of pairs", Texts.shapeOf(x), "1@1 abcd@3 efgh@3 ijk@2");
        Texts.insert(x, 0, "234");
        CHECK.due("the first leaf takes them", Texts.shapeOf(x), "2341@1 abcd@3 efgh@3 ijk@2");
        x.delete(11, 15);
        CHECK.due("after delete", Texts.shapeOf(x), "2341@1 abcd@2 efg@2");
        Texts.insert(x, 11, "z");
        CHECK.due("the right part is no leaf", Texts.shapeOf(x), "2341@2 abcd@3 efg@3 z@1");
    }

    private static void insertSplits() {
        CHECK.promise("promise 6, insert and splitting");
        TextRopes x = new TextRopes();
        x.setLeafSize(4);
        x.setBalancing(0);
        Texts.insert(x, 0, "abcdefghijkl");
        CHECK.due("built", Texts.shapeOf(x), "abcd@2 efgh@2 ijkl@1");
        Texts.insert(x, 2, "12345");
        // x = ab; y = (cd efgh) joined with ijkl; ab joined with (1234 5) is a pair, and so is all.
        CHECK.due("inside the first leaf", Texts.shapeOf(x), "ab@2 1234@3 5@3 cd@3 efgh@3 ijkl@2");
        x.undo();
        Texts.insert(x, 8, "1");
        CHECK.due("between the parts", Texts.shapeOf(x), "abcd@3 efgh@3 1@2 ijkl@1");
        x.undo();
        Texts.insert(x, 6, "1");
        // x = (abcd ef), which takes the 1 into its last leaf; y = gh joined with ijkl.
        CHECK.due("inside the second leaf", Texts.shapeOf(x), "abcd@2 ef1@2 gh@2 ijkl@2");
    }

    private static void delete() {
        CHECK.promise("promise 7, delete");
        TextRopes x = Texts.holding("abcdefghi");
        for (int bad : NO_POSITIONS) {
            CHECK.due("delete(" + bad + ", 3)", x.delete(bad, 3), TextRopes.NO_SUCH);
            CHECK.due("delete(3, " + bad + ")", x.delete(3, bad), TextRopes.NO_SUCH);
        }
        CHECK.due("delete(3, 3)", x.delete(3, 3), TextRopes.BAD_VALUE);
        CHECK.due("delete(3, 2)", x.delete(3, 2), TextRopes.BAD_VALUE);
        CHECK.due("delete(9, 9)", x.delete(9, 9), TextRopes.BAD_VALUE);
        CHECK.due("delete(3, -1)", x.delete(3, -1), TextRopes.NO_SUCH);
        CHECK.due("delete(10, 3)", x.delete(10, 3), TextRopes.NO_SUCH);
        CHECK.due("text after refusals", Texts.textOf(x), "abcdefghi");
        CHECK.due("undo() after refusals", x.undo(), 0);
        x = Texts.holding("abcdefghi");
        CHECK.due("delete(2, 4)", x.delete(2, 4), 7);
        CHECK.due("delete(6, 7)", x.delete(6, 7), 6);
        CHECK.due("delete(0, 1)", x.delete(0, 1), 5);
        CHECK.due("text", Texts.textOf(x), "befgh");
        CHECK.due("ring() after delete", x.ring(), 0);
        CHECK.due("delete(0, 5)", x.delete(0, 5), 0);
        CHECK.due("leaves()", x.leaves(), 0);
        CHECK.due("undo()", x.undo(), 4);
        CHECK.due("text after undo()", Texts.textOf(x), "befgh");
        deleteMovesMarks();
        deleteShapes();
    }

    private static void deleteMovesMarks() {
        TextRopes x = Texts.holding("abcdefghi");
        x.setMark(0, 2);
        x.setMark(1, 3);
        x.setMark(2, 6);
        x.setMark(3, 7);
        x.delete(3, 6);
        CHECK.due("marks", Texts.marksOf(x), "2 3 3 4");
        x.delete(0, 3);
        CHECK.due("marks", Texts.marksOf(x), "0 0 0 1");
        x.undo();
        x.undo();
        CHECK.due("marks after undo()", Texts.marksOf(x), "2 3 6 7");
        x.delete(2, 9);
        CHECK.due("marks", Texts.marksOf(x), "2 2 2 2");
    }

    private static void deleteShapes() {
        TextRopes x = new TextRopes();
        x.setBalancing(0);
        x.setLeafSize(4);
        Texts.insert(x, 0, "abcdefghijklmnop");
        CHECK.due("built", Texts.shapeOf(x), "abcd@2 efgh@2 ijkl@2 mnop@2");
        x.delete(5, 7);
        // Before it ab.. and e; behind it h joined with the right pair: no join of two leaves.
        CHECK.due("inside a leaf", Texts.shapeOf(x), "abcd@2 e@2 h@2 ijkl@3 mnop@3");
        x.undo();
        x.delete(3, 13);
        CHECK.due("over leaves", Texts.shapeOf(x), "abc@1 nop@1");
        x.undo();
        x.delete(2, 14);
        CHECK.due("what is left fits in one leaf", Texts.shapeOf(x), "abop@0");
    }

    private static void cut() {
        CHECK.promise("promise 8, cut");
        TextRopes x = Texts.holding("abcdefghi");
        for (int bad : NO_POSITIONS) {
            CHECK.due("cut(" + bad + ", 3)", x.cut(bad, 3), TextRopes.NO_SUCH);
            CHECK.due("cut(3, " + bad + ")", x.cut(3, bad), TextRopes.NO_SUCH);
        }
        CHECK.due("cut(3, 3)", x.cut(3, 3), TextRopes.BAD_VALUE);
        CHECK.due("cut(3, 2)", x.cut(3, 2), TextRopes.BAD_VALUE);
        CHECK.due("ring() after refusals", x.ring(), 0);
        x.setMark(0, 4);
        x.setMark(1, 9);
        CHECK.due("cut(2, 5)", x.cut(2, 5), 6);
        CHECK.due("text", Texts.textOf(x), "abfghi");
        CHECK.due("marks", Texts.marksOf(x), "2 6 -5 -5");
        CHECK.due("rope 0", Texts.ringTextOf(x, 0), "cde");
        CHECK.due("cut(0, 1)", x.cut(0, 1), 5);
        CHECK.due("rope 0", Texts.ringTextOf(x, 0), "a");
        CHECK.due("rope 1", Texts.ringTextOf(x, 1), "cde");
        x.cut(0, 1);
        x.cut(0, 1);
        CHECK.due("ring() of four", x.ring(), 4);
        CHECK.due("cut(0, 1), the fifth rope", x.cut(0, 1), 2);
        CHECK.due("ring() after the fifth", x.ring(), 4);
        CHECK.due("rope 0", Texts.ringTextOf(x, 0), "g");
        CHECK.due("rope 3", Texts.ringTextOf(x, 3), "a");
        CHECK.due("undo()", x.undo(), 5);
        CHECK.due("rope 0 after undo()", Texts.ringTextOf(x, 0), "f");
        CHECK.due("rope 3 after undo()", Texts.ringTextOf(x, 3), "cde");
        CHECK.due("cut(0, 3), all", x.cut(0, 3), 0);
        CHECK.due("rope 0", Texts.ringTextOf(x, 0), "ghi");
    }

    private static void copy() {
        CHECK.promise("promise 9, copy");
        TextRopes x = Texts.holding("abcdefghi");
        for (int bad : NO_POSITIONS) {
            CHECK.due("copy(" + bad + ", 3)", x.copy(bad, 3), TextRopes.NO_SUCH);
            CHECK.due("copy(3, " + bad + ")", x.copy(3, bad), TextRopes.NO_SUCH);
        }
        CHECK.due("copy(3, 3)", x.copy(3, 3), TextRopes.BAD_VALUE);
        CHECK.due("copy(9, 0)", x.copy(9, 0), TextRopes.BAD_VALUE);
        CHECK.due("undo() after refusals", x.undo(), 0);
        x = new TextRopes();
        x.setLeafSize(3);
        Texts.insert(x, 0, "abcdefghijkl");
        x.setMark(0, 5);
        CHECK.due("copy(0, 12)", x.copy(0, 12), 4);
        CHECK.due("copy(1, 11)", x.copy(1, 11), 4);
        CHECK.due("copy(4, 5)", x.copy(4, 5), 1);
        CHECK.due("copy(2, 7)", x.copy(2, 7), 3);
        CHECK.due("ring()", x.ring(), 4);
        CHECK.due("rope 0", Texts.ringTextOf(x, 0), "cdefg");
        CHECK.due("depth of rope 0", x.ofRing(0, 1), 2);
        CHECK.due("rope 2", Texts.ringTextOf(x, 2), "bcdefghijk");
        CHECK.due("rope 3", Texts.ringTextOf(x, 3), "abcdefghijkl");
        CHECK.due("text as before", Texts.shapeOf(x), "abc@2 def@2 ghi@2 jkl@2");
        CHECK.due("marks as before", Texts.marksOf(x), "5 -5 -5 -5");
        CHECK.due("undo()", x.undo(), 5);
        CHECK.due("ring() after undo()", x.ring(), 3);
        x = Texts.unbalanced();
        x.setBalancing(1);
        x.copy(1, 5);
        CHECK.due("copy does not balance", x.isBalanced(), 0);
        CHECK.due("builds()", x.builds(), 0);
    }

    private static void paste() {
        CHECK.promise("promise 10, paste");
        TextRopes x = Texts.holding("abcdefghi");
        CHECK.due("paste(0, 0) with an empty ring", x.paste(0, 0), TextRopes.NO_SUCH);
        x.copy(0, 2);
        x.copy(4, 9);
        x.setMark(0, 1);
        x.setMark(1, 0);
        for (int bad : new int[] {-1, 2, 4, Integer.MAX_VALUE, Integer.MIN_VALUE}) {
            CHECK.due("paste(0, " + bad + ")", x.paste(0, bad), TextRopes.NO_SUCH);
        }
        for (int bad : NO_POSITIONS) {
            CHECK.due("paste(" + bad + ", 0)", x.paste(bad, 0), TextRopes.NO_SUCH);
        }
        CHECK.due("undo() after refusals", x.undo(), 4);
        CHECK.due("undo() after refusals", x.undo(), 3);
        x.setMark(0, 1);
        x.setMark(1, 0);
        CHECK.due("paste(1, 1)", x.paste(1, 1), 11);
        CHECK.due("text", Texts.textOf(x), "aabbcdefghi");
        CHECK.due("marks", Texts.marksOf(x), "3 0 -5 -5");
        CHECK.due("paste(11, 0)", x.paste(11, 0), 16);
        CHECK.due("text", Texts.textOf(x), "aabbcdefghiefghi");
        CHECK.due("the rope stays", Texts.ringTextOf(x, 0), "efghi");
        CHECK.due("ring()", x.ring(), 2);
        CHECK.due("undo()", x.undo(), 5);
        CHECK.due("text after undo()", Texts.textOf(x), "aabbcdefghi");
        x = Texts.holding(Texts.repeated("a", 200));
        x.copy(0, 200);
        x.copy(0, 1);
        CHECK.due("paste to 400", x.paste(200, 1), 400);
        CHECK.due("paste to 401", x.paste(0, 0), TextRopes.LIMIT);
        CHECK.due("paste(401, 0)", x.paste(401, 0), TextRopes.NO_SUCH);
        CHECK.due("paste(0, 2)", x.paste(0, 2), TextRopes.NO_SUCH);
        CHECK.due("length()", x.length(), 400);
    }

    private static void move() {
        CHECK.promise("promise 11, move");
        TextRopes x = Texts.holding("abcdefghi");
        for (int bad : NO_POSITIONS) {
            CHECK.due("move(" + bad + ", 3, 0)", x.move(bad, 3, 0), TextRopes.NO_SUCH);
            CHECK.due("move(3, " + bad + ", 0)", x.move(3, bad, 0), TextRopes.NO_SUCH);
            CHECK.due("move(0, 3, " + bad + ")", x.move(0, 3, bad), TextRopes.BAD_VALUE);
        }
        CHECK.due("move(3, 3, 0)", x.move(3, 3, 0), TextRopes.BAD_VALUE);
        CHECK.due("move(4, 3, 0)", x.move(4, 3, 0), TextRopes.BAD_VALUE);
        CHECK.due("move(10, 3, -1)", x.move(10, 3, -1), TextRopes.NO_SUCH);
        CHECK.due("move(2, 5, 7), the text without them has 6", x.move(2, 5, 7), TextRopes.BAD_VALUE);
        CHECK.due("text after refusals", Texts.textOf(x), "abcdefghi");
        CHECK.due("undo() after refusals", x.undo(), 0);
        x = Texts.holding("abcdefghi");
        CHECK.due("move(2, 5, 6)", x.move(2, 5, 6), 9);
        CHECK.due("text", Texts.textOf(x), "abfghicde");
        CHECK.due("move(6, 9, 0)", x.move(6, 9, 0), 3);
        CHECK.due("text", Texts.textOf(x), "cdeabfghi");
        CHECK.due("move(1, 3, 1)", x.move(1, 3, 1), 3);
        CHECK.due("text", Texts.textOf(x), "cdeabfghi");
        CHECK.due("move(0, 9, 0)", x.move(0, 9, 0), 9);
        CHECK.due("text", Texts.textOf(x), "cdeabfghi");
        CHECK.due("ring() after move", x.ring(), 0);
        CHECK.due("undo()", x.undo(), 4);
        CHECK.due("undo()", x.undo(), 3);
        CHECK.due("undo()", x.undo(), 2);
        CHECK.due("text after undo()", Texts.textOf(x), "abfghicde");
        moveMovesMarksTwice();
    }

    private static void moveMovesMarksTwice() {
        TextRopes x = Texts.holding("abcdefghi");
        x.setMark(0, 1);
        x.setMark(1, 3);
        x.setMark(2, 5);
        x.setMark(3, 8);
        x.move(2, 5, 4);
        CHECK.due("marks", Texts.marksOf(x), "1 2 2 8");
        x.undo();
        x.move(2, 5, 2);
        CHECK.due("marks", Texts.marksOf(x), "1 5 5 8");
        x.undo();
        x.move(6, 9, 1);
        CHECK.due("marks", Texts.marksOf(x), "4 6 8 9");
    }

    private static void replaceAll() {
        CHECK.promise("promise 12, replaceAll");
        TextRopes x = Texts.holding("abcabcab");
        CHECK.due("replaceAll() without buffer and ring", x.replaceAll(), TextRopes.NOT_POSSIBLE);
        x.copy(2, 4);
        CHECK.due("replaceAll() without a buffer", x.replaceAll(), TextRopes.NOT_POSSIBLE);
        TextRopes other = Texts.holding("abc");
        Texts.type(other, "a");
        CHECK.due("replaceAll() without a ring", other.replaceAll(), TextRopes.NOT_POSSIBLE);
        CHECK.due("undo() after a refusal", other.undo(), 0);
        Texts.type(x, "ab");
        x.setMark(0, 1);
        x.setMark(1, 3);
        x.setMark(2, 8);
        CHECK.due("replaceAll()", x.replaceAll(), 3);
        CHECK.due("text", Texts.textOf(x), "caccacca");
        CHECK.due("marks", Texts.marksOf(x), "2 5 8 -5");
        CHECK.due("undo()", x.undo(), 5);
        CHECK.due("text after undo()", Texts.textOf(x), "abcabcab");
        CHECK.due("the buffer stays", x.clearBuffer(), 2);
        x = Texts.holding("aaaaa");
        x.copy(0, 3);
        Texts.type(x, "aa");
        CHECK.due("what was inserted is not searched", x.replaceAll(), 2);
        CHECK.due("text", Texts.textOf(x), "aaaaaaa");
        x = Texts.holding("abababa");
        x.copy(1, 2);
        Texts.type(x, "aba");
        CHECK.due("from the left, not over one another", x.replaceAll(), 2);
        CHECK.due("text", Texts.textOf(x), "bbb");
        x = Texts.holding("aabb");
        x.copy(0, 1);
        Texts.type(x, "ab");
        CHECK.due("no occurrence that begins in what was inserted", x.replaceAll(), 1);
        CHECK.due("text", Texts.textOf(x), "aab");
    }

    private static void replaceAllEdges() {
        CHECK.promise("promise 12, replaceAll at its edges");
        TextRopes x = Texts.unbalanced();
        x.copy(0, 1);
        x.setBalancing(1);
        Texts.type(x, "z");
        CHECK.due("no occurrence", x.replaceAll(), 0);
        CHECK.due("no change, no build", x.isBalanced(), 0);
        CHECK.due("builds()", x.builds(), 0);
        CHECK.due("the state was saved", x.undo(), 5);
        CHECK.due("setBalancing(1), as it was saved", x.setBalancing(1), 1);
        x.clearBuffer();
        Texts.type(x, "i");
        CHECK.due("one occurrence", x.replaceAll(), 1);
        CHECK.due("isBalanced() then", x.isBalanced(), 1);
        CHECK.due("one build for the whole call", x.builds(), 1);
        x = Texts.holding(Texts.repeated("ab", 133) + Texts.repeated("c", 2));
        x.copy(264, 266);
        Texts.type(x, "a");
        CHECK.due("133 occurrences to 401", x.replaceAll(), TextRopes.LIMIT);
        CHECK.due("length()", x.length(), 268);
        x.delete(267, 268);
        CHECK.due("133 occurrences to 400", x.replaceAll(), 133);
        CHECK.due("length()", x.length(), 400);
        CHECK.due("text", Texts.textOf(x), Texts.repeated("abb", 133) + "c");
        x = Texts.holding(Texts.repeated("a", 400));
        x.copy(0, 400);
        Texts.type(x, "b");
        CHECK.due("no occurrence at 400", x.replaceAll(), 0);
        x.clearBuffer();
        Texts.type(x, "a");
        CHECK.due("far over the limit", x.replaceAll(), TextRopes.LIMIT);
        x.copy(7, 8);
        CHECK.due("400 occurrences", x.replaceAll(), 400);
        CHECK.due("text", Texts.textOf(x), Texts.repeated("a", 400));
        x = Texts.holding("b" + Texts.repeated("a", 40));
        x.copy(0, 1);
        Texts.type(x, Texts.repeated("a", 40));
        CHECK.due("a full buffer", x.replaceAll(), 1);
        CHECK.due("text", Texts.textOf(x), "bb");
        CHECK.due("replaceAll() in an empty text", x.delete(0, 2) + x.replaceAll(), 0);
    }

    private static void build() {
        CHECK.promise("promise 13, build");
        TextRopes x = new TextRopes();
        CHECK.due("build() of nothing", x.build(), 0);
        CHECK.due("undo(), the state was saved", x.undo(), 0);
        x = Texts.unbalanced();
        CHECK.due("before", Texts.shapeOf(x), "ab@5 c@5 de@4 f@3 gh@2 i@1");
        CHECK.due("build()", x.build(), 3);
        CHECK.due("six leaves", Texts.shapeOf(x), "ab@3 c@3 de@2 f@3 gh@3 i@2");
        CHECK.due("builds()", x.builds(), 0);
        CHECK.due("build() again", x.build(), 3);
        x.undo();
        x.undo();
        CHECK.due("after undo()", Texts.shapeOf(x), "ab@5 c@5 de@4 f@3 gh@2 i@1");
        x = Texts.holding("abc");
        CHECK.due("build() of one leaf", x.build(), 0);
    }

    private static void pack() {
        CHECK.promise("promise 14, pack");
        TextRopes x = new TextRopes();
        CHECK.due("pack() of nothing", x.pack(), 0);
        CHECK.due("undo(), the state was saved", x.undo(), 0);
        x = Texts.unbalanced();
        x.setMark(1, 4);
        CHECK.due("pack()", x.pack(), 5);
        CHECK.due("leaves of two", Texts.shapeOf(x), "ab@3 cd@3 ef@2 gh@2 i@2");
        CHECK.due("builds()", x.builds(), 0);
        CHECK.due("marks", Texts.marksOf(x), "-5 4 -5 -5");
        x.setLeafSize(5);
        CHECK.due("pack()", x.pack(), 2);
        CHECK.due("leaves of five", Texts.shapeOf(x), "abcde@1 fghi@1");
        x.undo();
        CHECK.due("after undo()", Texts.shapeOf(x), "ab@3 cd@3 ef@2 gh@2 i@2");
    }

    /** Each of these changes looks at the balance once, and builds where it is missing. */
    private static void balanceAfterEachChange() {
        CHECK.promise("text and balance");
        for (int change = 0; change < 6; change++) {
            TextRopes x = Texts.unbalanced();
            Texts.insert(x, 9, "jk");
            Texts.insert(x, 11, "l");
            x.copy(0, 1);
            x.setBalancing(1);
            CHECK.due("isBalanced() before", x.isBalanced(), 0);
            changeBy(x, change);
            CHECK.due("isBalanced() after change " + change, x.isBalanced(), 1);
            CHECK.due("builds() after change " + change, x.builds(), 1);
            x.undo();
            CHECK.due("builds() after undo()", x.builds(), 0);
            CHECK.due("isBalanced() after undo()", x.isBalanced(), 0);
            x.setLeafSize(8);
            x.pack();
            changeBy(x, change);
            CHECK.due("builds() where none is missing", x.builds(), 0);
        }
    }

    private static void changeBy(TextRopes x, int change) {
        Texts.type(x, "i");
        switch (change) {
            case 0 -> x.insert(x.length());
            case 1 -> x.delete(8, 9);
            case 2 -> x.cut(8, 9);
            case 3 -> x.paste(x.length(), 0);
            case 4 -> x.move(0, x.length(), 0);
            default -> x.replaceAll();
        }
        x.clearBuffer();
    }
}
