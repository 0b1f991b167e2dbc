/** Promises 32 to 36: keep, goBack, difference, undo, digest. */
public final class VersionAndUndoTests {
    private static final Check CHECK = new Check("VersionAndUndoTests");
    private static final int[] NO_VERSIONS = {-1, 3, Integer.MAX_VALUE, Integer.MIN_VALUE};

    public static void main(String[] args) {
        keep();
        goBack();
        difference();
        undo();
        undoLeavesBufferAndVersions();
        whatSavesAState();
        digest();
        CHECK.end();
    }

    private static void keep() {
        CHECK.promise("promise 32, keep");
        TextRopes x = new TextRopes();
        for (int bad : NO_VERSIONS) {
            CHECK.due("keep(" + bad + ")", x.keep(bad), TextRopes.NO_SUCH);
        }
        CHECK.due("keep(2) of nothing", x.keep(2), 0);
        CHECK.due("keep saves no state", x.undo(), TextRopes.NOT_POSSIBLE);
        CHECK.due("goBack(2)", x.goBack(2), 0);
        Texts.insert(x, 0, "abc");
        CHECK.due("keep(0)", x.keep(0), 3);
        x.delete(0, 1);
        CHECK.due("keep(1)", x.keep(1), 2);
        x.delete(0, 1);
        CHECK.due("keep(0) in place of the first one", x.keep(0), 1);
        x.goBack(1);
        CHECK.due("version 1", Texts.textOf(x), "bc");
        x.goBack(0);
        CHECK.due("version 0", Texts.textOf(x), "c");
        x.goBack(2);
        CHECK.due("version 2", Texts.textOf(x), "");
    }

    private static void goBack() {
        CHECK.promise("promise 33, goBack");
        TextRopes x = Texts.unbalanced();
        for (int bad : NO_VERSIONS) {
            CHECK.due("goBack(" + bad + ")", x.goBack(bad), TextRopes.NO_SUCH);
        }
        CHECK.due("goBack(0), nothing kept", x.goBack(0), TextRopes.NOT_POSSIBLE);
        x.setBalancing(1);
        x.keep(0);
        Texts.insert(x, 9, "klm");
        x.setMark(0, 3);
        x.setMark(1, 9);
        x.setMark(2, 12);
        CHECK.due("goBack(0)", x.goBack(0), 9);
        CHECK.due("the rope as it was", Texts.shapeOf(x), "ab@5 c@5 de@4 f@3 gh@2 i@1");
        CHECK.due("goBack does not balance", x.isBalanced(), 0);
        CHECK.due("builds(), which are no part of a version", x.builds(), 1);
        CHECK.due("marks", Texts.marksOf(x), "3 9 9 -5");
        CHECK.due("undo()", x.undo(), 5);
        CHECK.due("text after undo()", Texts.textOf(x), "abcdefghiklm");
        CHECK.due("marks after undo()", Texts.marksOf(x), "3 9 12 -5");
        CHECK.due("goBack(0) once more", x.goBack(0), 9);
    }

    private static void difference() {
        CHECK.promise("promise 34, difference");
        TextRopes x = new TextRopes();
        for (int bad : NO_VERSIONS) {
            CHECK.due("difference(" + bad + ")", x.difference(bad), TextRopes.NO_SUCH);
        }
        CHECK.due("difference(0), nothing kept", x.difference(0), TextRopes.NOT_POSSIBLE);
        x.keep(0);
        CHECK.due("difference(0) of nothings", x.difference(0), TextRopes.NONE);
        Texts.insert(x, 0, "abcdef");
        CHECK.due("difference(0), the version is empty", x.difference(0), 0);
        x.keep(1);
        CHECK.due("difference(1), the same", x.difference(1), TextRopes.NONE);
        x.setLeafSize(2);
        x.pack();
        CHECK.due("difference(1), other leaves", x.difference(1), TextRopes.NONE);
        Texts.insert(x, 6, "g");
        CHECK.due("difference(1), the text is longer", x.difference(1), 6);
        x.delete(4, 7);
        CHECK.due("difference(1), the text is shorter", x.difference(1), 4);
        Texts.insert(x, 2, "x");
        CHECK.due("difference(1), in the middle", x.difference(1), 2);
        x.delete(0, 1);
        CHECK.due("difference(1), at once", x.difference(1), 0);
        x.undo();
        x.undo();
        x.undo();
        x.undo();
        CHECK.due("difference(1) after undo()", x.difference(1), TextRopes.NONE);
        x = Texts.holding("aab");
        x.keep(2);
        x.move(0, 1, 1);
        CHECK.due("difference(2), only the last one", x.difference(2), TextRopes.NONE);
        x.delete(2, 3);
        Texts.insert(x, 2, "c");
        CHECK.due("difference(2), only the last one", x.difference(2), 2);
    }

    private static void undo() {
        CHECK.promise("promise 35, undo");
        TextRopes x = new TextRopes();
        CHECK.due("undo() of nothing", x.undo(), TextRopes.NOT_POSSIBLE);
        for (int i = 0; i < 9; i++) {
            Texts.insert(x, x.length(), "" + (char) ('a' + i));
        }
        for (int left = 5; left >= 0; left--) {
            CHECK.due("undo()", x.undo(), left);
            CHECK.due("length()", x.length(), left + 3);
        }
        CHECK.due("undo() at the end", x.undo(), TextRopes.NOT_POSSIBLE);
        CHECK.due("text", Texts.textOf(x), "abc");
        x.setMark(0, 1);
        x.delete(0, 2);
        CHECK.due("undo()", x.undo(), 1);
        Texts.insert(x, 0, "z");
        CHECK.due("undo()", x.undo(), 1);
        CHECK.due("undo()", x.undo(), 0);
        CHECK.due("text", Texts.textOf(x), "abc");
        CHECK.due("marks", Texts.marksOf(x), "-5 -5 -5 -5");
    }

    private static void undoLeavesBufferAndVersions() {
        TextRopes x = Texts.holding("abc");
        Texts.type(x, "xy");
        x.delete(0, 1);
        x.keep(0);
        x.undo();
        CHECK.due("the buffer after undo()", x.clearBuffer(), 2);
        CHECK.due("the version after undo()", x.difference(0), 0);
        CHECK.due("goBack(0)", x.goBack(0), 2);
        CHECK.due("text", Texts.textOf(x), "bc");
    }

    /** Every method that is marked "Undoable" saves one state, and no other call does. */
    private static void whatSavesAState() {
        TextRopes x = Texts.holding("abc");
        x.copy(0, 1);
        x.keep(0);
        while (x.undo() > 0) {
            CHECK.holds("that something is left", x.length() > 0);
        }
        long before = x.digest();
        for (int call = 0; call < 13; call++) {
            x = Texts.holding("abc");
            x.copy(0, 1);
            x.keep(0);
            Texts.type(x, "z");
            long digest = x.digest();
            undoableCall(x, call);
            CHECK.due("undo() after call " + call, x.undo(), 2);
            CHECK.due("digest() after call " + call, x.digest(), digest);
            x.undo();
            x.undo();
            CHECK.due("digest() at the beginning", x.digest(), before);
        }
        x = Texts.holding("abc");
        x.type('a');
        x.keep(0);
        x.clearBuffer();
        x.type('b');
        x.find(0);
        x.difference(0);
        x.leaf(0, 0);
        x.digest();
        CHECK.due("undo() after calls that save nothing", x.undo(), 0);
    }

    private static void undoableCall(TextRopes x, int call) {
        switch (call) {
            case 0 -> x.setLeafSize(8);
            case 1 -> x.setBalancing(1);
            case 2 -> x.insert(1);
            case 3 -> x.delete(0, 1);
            case 4 -> x.cut(0, 1);
            case 5 -> x.copy(0, 1);
            case 6 -> x.paste(0, 0);
            case 7 -> x.move(0, 1, 1);
            case 8 -> x.replaceAll();
            case 9 -> x.build();
            case 10 -> x.pack();
            case 11 -> x.setMark(0, 0);
            default -> x.goBack(0);
        }
    }

    private static long hashOf(long... values) {
        long hash = 155;
        for (long value : values) {
            hash = 31 * hash + value;
        }
        return hash;
    }

    private static void digest() {
        CHECK.promise("promise 36, digest");
        TextRopes x = new TextRopes();
        CHECK.due("digest() of nothing", x.digest(), hashOf(0, 0, 0, 1, 0, 1, -5, -5, -5, -5, 0));
        x.setLeafSize(2);
        x.setBalancing(0);
        Texts.insert(x, 0, "ab");
        Texts.insert(x, 2, "\n");
        Texts.insert(x, 3, "de");
        x.setMark(1, 2);
        x.copy(1, 4);
        x.copy(0, 1);
        Texts.type(x, "q");
        x.keep(0);
        CHECK.due("digest()", x.digest(), hashOf(5, 2, 3, 1, 0, 2, 2, 1, 2, 2, 1, 'a', 'b', 10, 'd', 'e',
                2, -5, 2, -5, -5, 2, 1, 0, 1, 'a', 3, 1, 2, 'b', 10, 'd'));
    }
}
