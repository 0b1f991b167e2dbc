/** Promises 1 to 5: a new object, setLeafSize, setBalancing, type, clearBuffer. */
public final class SettingsAndBufferTests {
    private static final Check CHECK = new Check("SettingsAndBufferTests");

    public static void main(String[] args) {
        newObject();
        setLeafSize();
        setBalancing();
        type();
        clearBuffer();
        CHECK.end();
    }

    private static void newObject() {
        CHECK.promise("promise 1, a new object");
        TextRopes x = new TextRopes();
        CHECK.due("length()", x.length(), 0);
        CHECK.due("depth()", x.depth(), 0);
        CHECK.due("leaves()", x.leaves(), 0);
        CHECK.due("isBalanced()", x.isBalanced(), 1);
        CHECK.due("builds()", x.builds(), 0);
        CHECK.due("lines()", x.lines(), 1);
        CHECK.due("lineStart(0)", x.lineStart(0), 0);
        CHECK.due("lineOf(0)", x.lineOf(0), 0);
        CHECK.due("marks", Texts.marksOf(x), "-5 -5 -5 -5");
        CHECK.due("ring()", x.ring(), 0);
        CHECK.due("undo()", x.undo(), TextRopes.NOT_POSSIBLE);
        CHECK.due("clearBuffer()", x.clearBuffer(), 0);
        for (int version = 0; version < 3; version++) {
            CHECK.due("goBack", x.goBack(version), TextRopes.NOT_POSSIBLE);
            CHECK.due("difference", x.difference(version), TextRopes.NOT_POSSIBLE);
        }
        CHECK.due("setLeafSize(8)", x.setLeafSize(8), 8);
        CHECK.due("setBalancing(1)", x.setBalancing(1), 1);
        TextRopes other = Texts.holding("abc");
        CHECK.due("length() beside another object", x.length(), 0);
        CHECK.due("length() of the other object", other.length(), 3);
    }

    private static void setLeafSize() {
        CHECK.promise("promise 2, setLeafSize");
        TextRopes x = new TextRopes();
        for (int size : new int[] {1, 0, -1, 17, Integer.MAX_VALUE, Integer.MIN_VALUE}) {
            CHECK.due("setLeafSize(" + size + ")", x.setLeafSize(size), TextRopes.BAD_VALUE);
        }
        CHECK.due("undo() after refusals", x.undo(), TextRopes.NOT_POSSIBLE);
        CHECK.due("setLeafSize(2)", x.setLeafSize(2), 8);
        CHECK.due("setLeafSize(16)", x.setLeafSize(16), 2);
        CHECK.due("setLeafSize(3)", x.setLeafSize(3), 16);
        Texts.insert(x, 0, "abcdefgh");
        CHECK.due("leaves of 3", Texts.shapeOf(x), "abc@2 def@2 gh@1");
        CHECK.due("setLeafSize(16)", x.setLeafSize(16), 3);
        CHECK.due("leaves that exist", Texts.shapeOf(x), "abc@2 def@2 gh@1");
        CHECK.due("undo()", x.undo(), 4);
        CHECK.due("setLeafSize(5) after the undo", x.setLeafSize(5), 3);
        x = new TextRopes();
        Texts.insert(x, 0, "0123456789abcdefghi");
        CHECK.due("leaves of 8 at first", Texts.shapeOf(x), "01234567@2 89abcdef@2 ghi@1");
        x.setLeafSize(16);
        x.pack();
        CHECK.due("leaves of 16", Texts.shapeOf(x), "0123456789abcdef@1 ghi@1");
    }

    private static void setBalancing() {
        CHECK.promise("promise 3, setBalancing");
        TextRopes x = new TextRopes();
        for (int on : new int[] {2, -1, Integer.MAX_VALUE, Integer.MIN_VALUE}) {
            CHECK.due("setBalancing(" + on + ")", x.setBalancing(on), TextRopes.BAD_VALUE);
        }
        CHECK.due("undo() after refusals", x.undo(), TextRopes.NOT_POSSIBLE);
        CHECK.due("setBalancing(0)", x.setBalancing(0), 1);
        CHECK.due("setBalancing(0)", x.setBalancing(0), 0);
        CHECK.due("undo()", x.undo(), 1);
        CHECK.due("undo()", x.undo(), 0);
        CHECK.due("setBalancing(0) after the undos", x.setBalancing(0), 1);
        Texts.unbalance(x);
        CHECK.due("isBalanced() without balancing", x.isBalanced(), 0);
        CHECK.due("builds() without balancing", x.builds(), 0);
        CHECK.due("setBalancing(1)", x.setBalancing(1), 0);
        CHECK.due("isBalanced() at once", x.isBalanced(), 0);
        CHECK.due("builds() at once", x.builds(), 0);
        Texts.insert(x, x.length(), "a");
        CHECK.due("isBalanced() after a change", x.isBalanced(), 1);
        CHECK.due("builds() after a change", x.builds(), 1);
    }

    private static void type() {
        CHECK.promise("promise 4, type");
        TextRopes x = new TextRopes();
        for (int code : new int[] {9, 11, 31, 127, 0, -1, 13, 128, 256 + 65, Integer.MAX_VALUE, Integer.MIN_VALUE}) {
            CHECK.due("type(" + code + ")", x.type(code), TextRopes.BAD_VALUE);
        }
        CHECK.due("type(10)", x.type(10), 1);
        CHECK.due("type(32)", x.type(32), 2);
        CHECK.due("type(126)", x.type(126), 3);
        for (int count = 4; count <= 40; count++) {
            CHECK.due("type(65)", x.type(65), count);
        }
        CHECK.due("type(65) at 40", x.type(65), TextRopes.LIMIT);
        CHECK.due("type(9) at 40", x.type(9), TextRopes.BAD_VALUE);
        CHECK.due("undo() after typing", x.undo(), TextRopes.NOT_POSSIBLE);
        CHECK.due("insert(0)", x.insert(0), 40);
        CHECK.due("text", Texts.textOf(x), "\n ~" + Texts.repeated("A", 37));
        for (int code = 32; code <= 126; code++) {
            CHECK.due("type(" + code + ")", x.type(code), 1);
            x.insert(0);
            CHECK.due("character(0)", x.character(0), code);
            x.delete(0, 1);
        }
    }

    private static void clearBuffer() {
        CHECK.promise("promise 5, clearBuffer");
        TextRopes x = new TextRopes();
        CHECK.due("clearBuffer()", x.clearBuffer(), 0);
        Texts.type(x, "abc");
        CHECK.due("clearBuffer()", x.clearBuffer(), 3);
        CHECK.due("clearBuffer()", x.clearBuffer(), 0);
        CHECK.due("insert(0)", x.insert(0), TextRopes.NOT_POSSIBLE);
        CHECK.due("undo()", x.undo(), TextRopes.NOT_POSSIBLE);
        CHECK.due("type(65)", x.type(65), 1);
        Texts.type(x, Texts.repeated("x", 39));
        CHECK.due("clearBuffer()", x.clearBuffer(), 40);
        CHECK.due("type(66)", x.type(66), 1);
        x.insert(0);
        CHECK.due("text", Texts.textOf(x), "B");
    }
}
