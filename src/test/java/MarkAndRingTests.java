/** Promises 27 to 31: setMark, mark, ring, ofRing, ringCharacter. */
public final class MarkAndRingTests {
    private static final Check CHECK = new Check("MarkAndRingTests");

    public static void main(String[] args) {
        setMark();
        mark();
        ring();
        ofRing();
        ringCharacter();
        CHECK.end();
    }

    private static void setMark() {
        CHECK.promise("promise 27, setMark");
        TextRopes x = Texts.holding("abcdef");
        for (int bad : new int[] {-1, 4, Integer.MAX_VALUE, Integer.MIN_VALUE}) {
            CHECK.due("setMark(" + bad + ", 0)", x.setMark(bad, 0), TextRopes.NO_SUCH);
        }
        for (int bad : new int[] {-1, 7, -5, Integer.MAX_VALUE, Integer.MIN_VALUE}) {
            CHECK.due("setMark(0, " + bad + ")", x.setMark(0, bad), TextRopes.NO_SUCH);
        }
        CHECK.due("undo() after refusals", x.undo(), 0);
        x = Texts.holding("abcdef");
        for (int mark = 0; mark < 4; mark++) {
            CHECK.due("setMark for the first time", x.setMark(mark, mark + 2), TextRopes.NONE);
        }
        CHECK.due("setMark(3, 6), the end", x.setMark(3, 6), 5);
        CHECK.due("marks", Texts.marksOf(x), "2 3 4 6");
        CHECK.due("undo()", x.undo(), 5);
        CHECK.due("undo() to the first marks", x.undo(), 4);
        CHECK.due("marks after undo()", Texts.marksOf(x), "2 3 4 -5");
        CHECK.due("setMark(3, 0)", x.setMark(3, 0), TextRopes.NONE);
        CHECK.due("setMark(0, 0) in nothing", new TextRopes().setMark(0, 0), TextRopes.NONE);
        CHECK.due("setMark(0, 1) in nothing", new TextRopes().setMark(0, 1), TextRopes.NO_SUCH);
    }

    private static void mark() {
        CHECK.promise("promise 28, mark");
        TextRopes x = Texts.holding("abcdef");
        for (int bad : new int[] {-1, 4, Integer.MAX_VALUE, Integer.MIN_VALUE}) {
            CHECK.due("mark(" + bad + ")", x.mark(bad), TextRopes.NO_SUCH);
        }
        for (int mark = 0; mark < 4; mark++) {
            CHECK.due("mark(" + mark + ")", x.mark(mark), TextRopes.NONE);
            x.setMark(mark, 6 - mark);
            CHECK.due("mark(" + mark + ")", x.mark(mark), 6 - mark);
        }
        x = Texts.holding("abcdef");
        x.setMark(2, 0);
        Texts.insert(x, 0, "xy");
        x.delete(0, 1);
        CHECK.due("marks that are not set stay so", Texts.marksOf(x), "-5 -5 1 -5");
    }

    private static void ring() {
        CHECK.promise("promise 29, ring");
        TextRopes x = Texts.holding("abcdefghi");
        CHECK.due("ring()", x.ring(), 0);
        x.delete(0, 1);
        x.move(0, 1, 2);
        CHECK.due("ring() after delete and move", x.ring(), 0);
        for (int i = 1; i <= 6; i++) {
            x.copy(i, i + 1);
            CHECK.due("ring()", x.ring(), Math.min(i, 4));
        }
        x.paste(0, 3);
        CHECK.due("ring() after paste", x.ring(), 4);
    }

    private static void ofRing() {
        CHECK.promise("promise 30, ofRing");
        TextRopes x = new TextRopes();
        CHECK.due("ofRing(0, 0) of nothing", x.ofRing(0, 0), TextRopes.NO_SUCH);
        CHECK.due("ofRing(0, 3) of nothing", x.ofRing(0, 3), TextRopes.NO_SUCH);
        x = Texts.unbalanced();
        x.copy(0, 9);
        x.copy(0, 1);
        x.copy(3, 8);
        int[][] due = {{5, 2, 3}, {1, 0, 1}, {9, 5, 6}};
        for (int rope = 0; rope < due.length; rope++) {
            for (int what = 0; what < 3; what++) {
                CHECK.due("ofRing(" + rope + ", " + what + ")", x.ofRing(rope, what), due[rope][what]);
            }
            for (int bad : new int[] {-1, 3, Integer.MAX_VALUE, Integer.MIN_VALUE}) {
                CHECK.due("ofRing(" + rope + ", " + bad + ")", x.ofRing(rope, bad), TextRopes.BAD_VALUE);
            }
        }
        for (int bad : new int[] {-1, 3, 4, Integer.MAX_VALUE, Integer.MIN_VALUE}) {
            CHECK.due("ofRing(" + bad + ", 0)", x.ofRing(bad, 0), TextRopes.NO_SUCH);
            CHECK.due("ofRing(" + bad + ", 3)", x.ofRing(bad, 3), TextRopes.NO_SUCH);
        }
    }

    private static void ringCharacter() {
        CHECK.promise("promise 31, ringCharacter");
        TextRopes x = new TextRopes();
        CHECK.due("ringCharacter(0, 0) of nothing", x.ringCharacter(0, 0), TextRopes.NO_SUCH);
        x = Texts.unbalanced();
        x.copy(0, 9);
        x.copy(4, 7);
        CHECK.due("rope 0", Texts.ringTextOf(x, 0), "efg");
        CHECK.due("rope 1", Texts.ringTextOf(x, 1), "abcdefghi");
        for (int bad : new int[] {-1, 3, Integer.MAX_VALUE, Integer.MIN_VALUE}) {
            CHECK.due("ringCharacter(0, " + bad + ")", x.ringCharacter(0, bad), TextRopes.NO_SUCH);
        }
        CHECK.due("ringCharacter(1, 9)", x.ringCharacter(1, 9), TextRopes.NO_SUCH);
        for (int bad : new int[] {-1, 2, Integer.MAX_VALUE, Integer.MIN_VALUE}) {
            CHECK.due("ringCharacter(" + bad + ", 0)", x.ringCharacter(bad, 0), TextRopes.NO_SUCH);
        }
        x.delete(0, 9);
        CHECK.due("rope 1 after the text is gone", Texts.ringTextOf(x, 1), "abcdefghi");
    }
}
