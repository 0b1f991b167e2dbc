/** The bounds that promises 27 to 36 name: marks, ring, versions, saved states and the digest. */
public final class KeepingBoundsTests {
    private static final Check CHECK = new Check("KeepingBoundsTests");
    private static final int NO_SUCH = TextRopes.NO_SUCH;
    private static final int BAD_VALUE = TextRopes.BAD_VALUE;
    private static final int NOT_POSSIBLE = TextRopes.NOT_POSSIBLE;
    private static final int NONE = TextRopes.NONE;
    private static final int[] ROPES = {0, 2, 4, 4, 4};

    private static Bounds[] editors;

    public static void main(String[] args) {
        editors = Editors.all(CHECK);
        setMarkNumbers();
        setMarkPositions();
        markNumbers();
        ringCounts();
        ofRingNumbers();
        ofRingWhats();
        ringCharacters();
        keepNumbers();
        goBackNumbers();
        goBackToNothingKept();
        goBackLowersMarks();
        differenceNumbers();
        differencesAtTheEnds();
        undoUpToSix();
        undoNothingSaved();
        digests();
        CHECK.end();
    }

    private static void setMarkNumbers() {
        CHECK.promise("promise 27, mark is 0 to 3");
        for (Bounds b : editors) {
            for (int bad : Bounds.outside(0, 3)) {
                b.refused("setMark(" + bad + ", 0)", x -> x.setMark(bad, 0), NO_SUCH);
                b.refused("setMark(" + bad + ", the same)", x -> x.setMark(bad, bad), NO_SUCH);
            }
            for (int mark : new int[] {0, 3}) {
                int previous = b.editor().mark(mark);
                b.saves("setMark(" + mark + ", 0)", x -> x.setMark(mark, 0), previous);
            }
        }
    }

    private static void setMarkPositions() {
        CHECK.promise("promise 27, position is 0 to the length of the text");
        for (Bounds b : editors) {
            int length = b.length();
            for (int bad : Bounds.outside(0, length)) {
                b.refused("setMark(0, " + bad + ")", x -> x.setMark(0, bad), NO_SUCH);
                b.refused("setMark(3, " + bad + ")", x -> x.setMark(3, bad), NO_SUCH);
            }
            int previous = b.editor().mark(3);
            b.saves("setMark to the end", x -> x.setMark(3, length), previous);
            TextRopes x = b.editor();
            x.setMark(3, length);
            CHECK.due("mark(3) at the end", x.mark(3), length);
            CHECK.due("setMark(3, 0)", x.setMark(3, 0), length);
            CHECK.due("setMark(3, 0) once more", x.setMark(3, 0), 0);
        }
        Editors.fresh(CHECK).saves("setMark(2, 0) of a mark that is not set", x -> x.setMark(2, 0), NONE);
        Editors.fresh(CHECK).refused("setMark(2, 1) in an empty text", x -> x.setMark(2, 1), NO_SUCH);
    }

    private static void markNumbers() {
        CHECK.promise("promise 28, mark is 0 to 3");
        for (Bounds b : editors) {
            for (int bad : Bounds.outside(0, 3)) {
                b.refused("mark(" + bad + ")", x -> x.mark(bad), NO_SUCH);
            }
        }
        Editors.fresh(CHECK).asked("mark(0), not set", x -> x.mark(0), NONE);
        Editors.fresh(CHECK).asked("mark(3), not set", x -> x.mark(3), NONE);
        Editors.some(CHECK).asked("mark(0), not set", x -> x.mark(0), NONE);
        Editors.some(CHECK).asked("mark(1)", x -> x.mark(1), 4);
        Editors.full(CHECK).asked("mark(0)", x -> x.mark(0), 0);
        Editors.full(CHECK).asked("mark(3)", x -> x.mark(3), 400);
        Editors.emptied(CHECK).asked("mark(3) in an empty text", x -> x.mark(3), 0);
    }

    private static void ringCounts() {
        CHECK.promise("promise 29, ring from 0 to 4");
        for (int i = 0; i < editors.length; i++) {
            editors[i].asked("ring()", TextRopes::ring, ROPES[i]);
        }
        TextRopes x = Texts.holding("abcdef");
        for (int i = 1; i <= 6; i++) {
            x.cut(0, 1);
            CHECK.due("ring() after " + i, x.ring(), Math.min(i, 4));
        }
        for (int i = 0; i < 6; i++) {
            x.undo();
        }
        CHECK.due("ring() after all undone", x.ring(), 0);
    }

    private static void ofRingNumbers() {
        CHECK.promise("promise 30, NO_SUCH if there is no such rope");
        for (int i = 0; i < editors.length; i++) {
            Bounds b = editors[i];
            for (int bad : Bounds.outside(0, ROPES[i] - 1)) {
                for (int what = 0; what < 3; what++) {
                    int asked = what;
                    b.refused("ofRing(" + bad + ", " + what + ")", x -> x.ofRing(bad, asked), NO_SUCH);
                }
                b.refused("ofRing(" + bad + ", 3)", x -> x.ofRing(bad, 3), NO_SUCH);
                b.refused("ofRing(" + bad + ", -1)", x -> x.ofRing(bad, -1), NO_SUCH);
                b.refused("ofRing(" + bad + ", the same)", x -> x.ofRing(bad, bad), NO_SUCH);
            }
        }
    }

    private static void ofRingWhats() {
        CHECK.promise("promise 30, BAD_VALUE if what is out of range");
        for (int i = 1; i < editors.length; i++) {
            int last = ROPES[i] - 1;
            for (int bad : Bounds.outside(0, 2)) {
                editors[i].refused("ofRing(0, " + bad + ")", x -> x.ofRing(0, bad), BAD_VALUE);
                editors[i].refused("ofRing of the last, " + bad, x -> x.ofRing(last, bad), BAD_VALUE);
            }
        }
        int[][] due = {{6, 0, 1}, {2, 0, 1}};
        for (int rope = 0; rope < due.length; rope++) {
            int asked = rope;
            for (int what = 0; what < 3; what++) {
                int about = what;
                editors[1].asked("ofRing(" + rope + ", " + what + ")", x -> x.ofRing(asked, about), due[rope][what]);
            }
        }
        TextRopes x = Texts.holding(Texts.repeated("a", 400));
        x.copy(0, 400);
        x.copy(399, 400);
        CHECK.due("length of the longest rope", x.ofRing(1, 0), 400);
        CHECK.due("length of the shortest rope", x.ofRing(0, 0), 1);
        CHECK.due("depth of a leaf", x.ofRing(0, 1), 0);
        CHECK.due("leaves of a leaf", x.ofRing(0, 2), 1);
        CHECK.due("depth of the longest rope", x.ofRing(1, 1), x.depth());
        CHECK.due("leaves of the longest rope", x.ofRing(1, 2), 50);
    }

    private static void ringCharacters() {
        CHECK.promise("promise 31, position is 0 to the length of the rope minus 1");
        for (int i = 0; i < editors.length; i++) {
            Bounds b = editors[i];
            for (int bad : Bounds.outside(0, ROPES[i] - 1)) {
                b.refused("ringCharacter(" + bad + ", 0)", x -> x.ringCharacter(bad, 0), NO_SUCH);
                b.refused("ringCharacter(" + bad + ", -1)", x -> x.ringCharacter(bad, -1), NO_SUCH);
            }
            for (int rope = 0; rope < ROPES[i]; rope++) {
                int asked = rope;
                int length = b.editor().ofRing(rope, 0);
                for (int bad : Bounds.outside(0, length - 1)) {
                    b.refused("ringCharacter(" + rope + ", " + bad + ")", x -> x.ringCharacter(asked, bad), NO_SUCH);
                }
            }
        }
        Bounds some = editors[1];
        some.asked("ringCharacter(0, 0)", x -> x.ringCharacter(0, 0), 'd');
        some.asked("ringCharacter(0, 5)", x -> x.ringCharacter(0, 5), 'i');
        some.asked("ringCharacter(1, 0)", x -> x.ringCharacter(1, 0), 'a');
        some.asked("ringCharacter(1, 1)", x -> x.ringCharacter(1, 1), 'b');
        some.refused("ringCharacter(1, 2), inside the rope 0 alone", x -> x.ringCharacter(1, 2), NO_SUCH);
        some.refused("ringCharacter(0, 6)", x -> x.ringCharacter(0, 6), NO_SUCH);
    }

    private static void keepNumbers() {
        CHECK.promise("promise 32, version is 0 to 2");
        for (Bounds b : editors) {
            int length = b.length();
            for (int bad : Bounds.outside(0, 2)) {
                b.refused("keep(" + bad + ")", x -> x.keep(bad), NO_SUCH);
            }
            for (int version = 0; version < 3; version++) {
                int kept = version;
                b.savesNothing("keep(" + version + ")", x -> x.keep(kept), length);
                TextRopes x = b.editor();
                x.keep(kept);
                CHECK.due("difference(" + version + ") then", x.difference(version), NONE);
                CHECK.due("goBack(" + version + ") then", x.goBack(version), length);
            }
        }
        TextRopes x = Editors.full();
        x.keep(0);
        CHECK.due("goBack(1), which keep(0) leaves", x.goBack(1), 146);
        CHECK.due("goBack(0), in place of what was kept there", x.goBack(0), 400);
    }

    private static void goBackNumbers() {
        CHECK.promise("promise 33, version is 0 to 2");
        for (Bounds b : editors) {
            for (int bad : Bounds.outside(0, 2)) {
                b.refused("goBack(" + bad + ")", x -> x.goBack(bad), NO_SUCH);
            }
        }
        int[] lengths = {40, 146, 400};
        for (int version = 0; version < 3; version++) {
            int asked = version;
            Editors.full(CHECK).saves("goBack(" + version + ")", x -> x.goBack(asked), lengths[version]);
            Editors.emptied(CHECK).saves("goBack(" + version + ")", x -> x.goBack(asked), lengths[version]);
        }
    }

    private static void goBackToNothingKept() {
        CHECK.promise("promises 33 and 34, NOT_POSSIBLE if nothing was kept there");
        for (int version = 0; version < 3; version++) {
            int asked = version;
            Editors.fresh(CHECK).refused("goBack(" + version + ")", x -> x.goBack(asked), NOT_POSSIBLE);
            Editors.fresh(CHECK).refused("difference(" + version + ")", x -> x.difference(asked), NOT_POSSIBLE);
            Bounds others = new Bounds(CHECK, "all kept but " + version, () -> {
                TextRopes x = Texts.holding("abc");
                for (int other = 0; other < 3; other++) {
                    x.keep(other == asked ? -1 : other);
                }
                return x;
            });
            others.refused("goBack(" + version + ")", x -> x.goBack(asked), NOT_POSSIBLE);
            others.refused("difference(" + version + ")", x -> x.difference(asked), NOT_POSSIBLE);
            others.saves("goBack(" + (version + 1) % 3 + ")", x -> x.goBack((asked + 1) % 3), 3);
        }
        Bounds empty = new Bounds(CHECK, "an empty text kept", () -> {
            TextRopes x = new TextRopes();
            x.keep(2);
            Texts.insert(x, 0, "abc");
            return x;
        });
        empty.saves("goBack(2) to an empty text", x -> x.goBack(2), 0);
        empty.asked("difference(2) from an empty text", x -> x.difference(2), 0);
        empty.refused("goBack(1)", x -> x.goBack(1), NOT_POSSIBLE);
    }

    private static void goBackLowersMarks() {
        CHECK.promise("promise 33, marks that would be above its length go to its end");
        TextRopes x = Texts.holding("abcd");
        x.keep(0);
        Texts.insert(x, 4, "efgh");
        x.setMark(0, 3);
        x.setMark(1, 4);
        x.setMark(2, 5);
        CHECK.due("goBack(0)", x.goBack(0), 4);
        CHECK.due("marks below, at and above the length", Texts.marksOf(x), "3 4 4 -5");
        x.undo();
        CHECK.due("marks after undo()", Texts.marksOf(x), "3 4 5 -5");
        x.setMark(3, 8);
        x.goBack(0);
        CHECK.due("a mark far above the length", Texts.marksOf(x), "3 4 4 4");
        for (int mark = 0; mark < 4; mark++) {
            TextRopes one = Texts.holding("ab");
            one.keep(2);
            Texts.insert(one, 0, "c");
            one.setMark(mark, 3);
            one.goBack(2);
            CHECK.due("mark(" + mark + ") one above the length", one.mark(mark), 2);
        }
        TextRopes y = new TextRopes();
        y.keep(1);
        Texts.insert(y, 0, "ab");
        y.setMark(0, 0);
        y.setMark(3, 2);
        CHECK.due("goBack(1) to an empty text", y.goBack(1), 0);
        CHECK.due("marks in an empty text", Texts.marksOf(y), "0 -5 -5 0");
        y.keep(0);
        y.undo();
        y.goBack(0);
        CHECK.due("marks that are not set", Texts.marksOf(y), "0 -5 -5 0");
    }

    private static void differenceNumbers() {
        CHECK.promise("promise 34, version is 0 to 2");
        for (Bounds b : editors) {
            for (int bad : Bounds.outside(0, 2)) {
                b.refused("difference(" + bad + ")", x -> x.difference(bad), NO_SUCH);
            }
        }
        Bounds full = Editors.full(CHECK);
        full.asked("difference(0)", x -> x.difference(0), 7);
        full.asked("difference(2)", x -> x.difference(2), NONE);
        Bounds emptied = Editors.emptied(CHECK);
        emptied.asked("difference(0) of an empty text", x -> x.difference(0), 0);
        emptied.asked("difference(2) of an empty text", x -> x.difference(2), 0);
    }

    /** A text with one version; what the version holds comes first. */
    private static int difference(String kept, String text) {
        TextRopes x = Texts.holding(kept);
        x.keep(1);
        if (!kept.isEmpty()) {
            x.delete(0, kept.length());
        }
        for (int from = 0; from < text.length(); from += 40) {
            Texts.insert(x, from, text.substring(from, Math.min(from + 40, text.length())));
        }
        return x.difference(1);
    }

    private static void differencesAtTheEnds() {
        CHECK.promise("promise 34, the first difference, or the lesser length");
        CHECK.due("both empty", difference("", ""), NONE);
        CHECK.due("an empty version", difference("", "a"), 0);
        CHECK.due("an empty text", difference("a", ""), 0);
        CHECK.due("the same", difference("a", "a"), NONE);
        CHECK.due("another one", difference("a", "b"), 0);
        CHECK.due("the version is the beginning", difference("ab", "abc"), 2);
        CHECK.due("the text is the beginning", difference("abc", "ab"), 2);
        CHECK.due("the last of the lesser length", difference("abx", "abcd"), 2);
        CHECK.due("the last of both", difference("abc", "abd"), 2);
        String long399 = Texts.repeated("abc", 133);
        CHECK.due("400, the same", difference(long399 + "a", long399 + "a"), NONE);
        CHECK.due("400, but for the last one", difference(long399 + "a", long399 + "b"), 399);
        CHECK.due("399 and 400", difference(long399, long399 + "a"), 399);
        CHECK.due("400 and 399", difference(long399 + "a", long399), 399);
    }

    private static void undoUpToSix() {
        CHECK.promise("promise 35, the number of saved states that are left");
        for (int saved = 0; saved <= 9; saved++) {
            TextRopes x = new TextRopes();
            for (int i = 0; i < saved; i++) {
                Texts.insert(x, i, "a");
            }
            int kept = Math.min(saved, 6);
            for (int left = kept - 1; left >= 0; left--) {
                CHECK.due("undo() of " + saved, x.undo(), left);
            }
            CHECK.due("undo() of none of " + saved, x.undo(), NOT_POSSIBLE);
            CHECK.due("length() at the end of " + saved, x.length(), saved - kept);
        }
        TextRopes x = Editors.full();
        CHECK.due("undo() of six", x.undo(), 5);
        CHECK.due("one more saved", x.setLeafSize(4), 5);
        CHECK.due("undo() of six once more", x.undo(), 5);
        CHECK.due("undo() of five", x.undo(), 4);
    }

    private static void undoNothingSaved() {
        CHECK.promise("promise 35, NOT_POSSIBLE if no state is saved");
        Editors.fresh(CHECK).refused("undo()", TextRopes::undo, NOT_POSSIBLE);
        Bounds undone = new Bounds(CHECK, "all undone", () -> {
            TextRopes x = Editors.full();
            for (int i = 0; i < 6; i++) {
                x.undo();
            }
            return x;
        });
        undone.refused("undo()", TextRopes::undo, NOT_POSSIBLE);
        undone.saves("setLeafSize(7)", x -> x.setLeafSize(7), 3);
        Bounds typed = new Bounds(CHECK, "nothing but typed and kept", () -> {
            TextRopes x = new TextRopes();
            Texts.type(x, "abc");
            x.keep(0);
            return x;
        });
        typed.refused("undo()", TextRopes::undo, NOT_POSSIBLE);
    }

    private static void digests() {
        CHECK.promise("promise 36, digest of empty and full editors");
        CHECK.due("digest() of nothing", new TextRopes().digest(), 3938313946479220547L);
        for (Bounds b : editors) {
            TextRopes x = b.editor();
            CHECK.due("digest()", x.digest(), digestByQuestions(b.editor()));
            CHECK.due("digest() once more", x.digest(), x.digest());
            b.asked("digest()", y -> (int) y.digest(), (int) x.digest());
        }
        TextRopes built = new TextRopes();
        built.setLeafSize(2);
        for (int i = 0; i < 200 && built.builds() < 3; i++) {
            Texts.insert(built, built.length(), i % 2 == 0 ? "ab" : "c");
        }
        CHECK.due("digest() after builds", built.digest(), digestByQuestions(built));
        TextRopes unbalanced = Texts.unbalanced();
        CHECK.due("digest() of a text that is not balanced", unbalanced.digest(), digestByQuestions(unbalanced));
        TextRopes x = Editors.some();
        long digest = x.digest();
        x.clearBuffer();
        x.keep(0);
        x.setLeafSize(16);
        x.setBalancing(0);
        CHECK.due("digest() without buffer, versions, saved states and settings", x.digest(), digest);
        x.setMark(3, 0);
        CHECK.holds("another digest with another mark", x.digest() != digest);
    }

    private static long digestByQuestions(TextRopes x) {
        long hash = 155;
        for (long v : new long[] {x.length(), x.depth(), x.leaves(), x.isBalanced(), x.builds()}) {
            hash = 31 * hash + v;
        }
        for (int leaf = 0; leaf < x.leaves(); leaf++) {
            hash = 31 * (31 * hash + x.leaf(leaf, 1)) + x.leaf(leaf, 2);
        }
        for (int position = 0; position < x.length(); position++) {
            hash = 31 * hash + x.character(position);
        }
        for (long v : new long[] {x.lines(), x.mark(0), x.mark(1), x.mark(2), x.mark(3), x.ring()}) {
            hash = 31 * hash + v;
        }
        for (int rope = 0; rope < x.ring(); rope++) {
            for (int what = 0; what < 3; what++) {
                hash = 31 * hash + x.ofRing(rope, what);
            }
            for (int position = 0; position < x.ofRing(rope, 0); position++) {
                hash = 31 * hash + x.ringCharacter(rope, position);
            }
        }
        return hash;
    }
}
