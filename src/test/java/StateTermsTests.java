/** "Terms" of the document, from text and balance to the error codes: each sentence that names a boundary case. */
public final class StateTermsTests {
    private static final Check CHECK = new Check("StateTermsTests");
    private static final int LARGEST_LEAF = 16;

    public static void main(String[] args) {
        textOf400();
        charactersOfTheText();
        balancedWithFewLeaves();
        balancedOrJustNot();
        neverBalancedAtDepth13();
        builtWhereJustNotBalanced();
        builtAfterEachOfSixChanges();
        balancingIsOnAtFirst();
        lookedAtOnceAfterTheCall();
        noOtherMethodBuilds();
        replaceAllWithoutOccurrence();
        marksWhereSomethingIsInserted();
        marksWhereSomethingIsTakenOut();
        marksOfAMove();
        marksOfAReplacement();
        marksThatAreNotSet();
        fifthRopeOfTheRing();
        bufferOf40();
        seventhSavedState();
        stateIsAllButThree();
        noneIsNoErrorCode();
        lastOf512Calls();
        CHECK.end();
    }

    private static void textOf400() {
        CHECK.promise("the text is a rope of at most 400 characters, initially empty");
        CHECK.due("length() at first", new TextRopes().length(), 0);
        TextRopes x = Texts.holding(Texts.repeated("a", 399));
        CHECK.due("the 400th", Texts.insert(x, 200, "b"), 400);
        CHECK.due("the 401st", Texts.insert(x, 200, "c"), TextRopes.LIMIT);
        CHECK.due("length() after the refusal", x.length(), 400);
        CHECK.due("move() at 400", x.move(0, 399, 1), 400);
        CHECK.due("cut() at 400", x.cut(0, 400), 0);
        CHECK.due("paste() of 400", x.paste(0, 0), 400);
        CHECK.due("goBack() to 400", x.keep(0) == 400 ? x.goBack(0) : 0, 400);
        x.delete(0, 400);
        CHECK.due("the buffer of the refused insert()", x.insert(0), 1);
    }

    private static void charactersOfTheText() {
        CHECK.promise("characters are 32 to 126 or 10");
        int typed = 0;
        TextRopes x = new TextRopes();
        for (int code = -2; code <= 300; code++) {
            boolean isOne = code == 10 || code >= 32 && code <= 126;
            if (typed == 40) {
                x.insert(x.length());
                typed = 0;
            }
            typed += isOne ? 1 : 0;
            CHECK.due("type(" + code + ")", x.type(code), isOne ? typed : TextRopes.BAD_VALUE);
        }
        x.insert(x.length());
        CHECK.due("length() of all", x.length(), 96);
        CHECK.due("character(0)", x.character(0), 10);
        for (int position = 1; position < 96; position++) {
            CHECK.due("character(" + position + ")", x.character(position), 31 + position);
        }
    }

    private static void balancedWithFewLeaves() {
        CHECK.promise("a rope of depth d is balanced if it is empty or has at least f(d + 1) characters, d from 0 to 4");
        CHECK.due("empty", new TextRopes().isBalanced(), 1);
        CHECK.due("1 at depth 0", without("a").isBalanced(), 1);
        TextRopes x = without("ab");
        Texts.insert(x, 1, "cde");
        x.build();
        x.delete(0, 3);
        CHECK.due("depth() of two leaves of one", x.depth(), 1);
        CHECK.due("2 at depth 1, f(2) = 2", x.isBalanced(), 1);
        x = without("ab");
        Texts.insert(x, 1, "abc");
        CHECK.due("depth()", x.depth(), 3);
        CHECK.due("5 at depth 3, f(4) = 5", x.isBalanced(), 1);
        x = fourLeavesOfOne();
        CHECK.due("depth() of four leaves of one", x.depth(), 3);
        CHECK.due("length() of four leaves of one", x.length(), 4);
        CHECK.due("4 at depth 3, f(4) = 5", x.isBalanced(), 0);
        x = without("abc");
        Texts.insert(x, 2, "abcde");
        CHECK.due("depth()", x.depth(), 4);
        CHECK.due("8 at depth 4, f(5) = 8", x.isBalanced(), 1);
        x = without("ab");
        Texts.insert(x, 1, "abcde");
        CHECK.due("depth()", x.depth(), 4);
        CHECK.due("7 at depth 4, f(5) = 8", x.isBalanced(), 0);
    }

    private static TextRopes without(String text) {
        TextRopes x = new TextRopes();
        x.setBalancing(0);
        x.setLeafSize(2);
        Texts.insert(x, 0, text);
        return x;
    }

    /** Joins put two leaves of one together where they can; found by trying, as only build() brings them below a pair. */
    private static TextRopes fourLeavesOfOne() {
        TextRopes x = without("ab");
        x.copy(1, 2);
        x.paste(1, 0);
        x.copy(0, 1);
        x.paste(3, 0);
        x.delete(2, 4);
        Texts.insert(x, 1, "abcde");
        x.build();
        x.move(5, 7, 4);
        x.build();
        x.delete(1, 4);
        return x;
    }

    /** The fewest characters with which a rope of this depth is balanced. */
    private static int fewest(int depth) {
        int a = 1;
        int b = 1;
        for (int i = 0; i < depth; i++) {
            int sum = a + b;
            a = b;
            b = sum;
        }
        return b;
    }

    /** A text without balancing of just this depth and length: packed leaves, and more leaves behind them, one by one. */
    private static TextRopes spine(int depth, int length) {
        TextRopes x = new TextRopes();
        x.setBalancing(0);
        x.setLeafSize(LARGEST_LEAF);
        // Leaves one by one alone hold enough for the bound up to depth 10, and 400 is the end at depth 13.
        int packedDepth = depth <= 10 ? 0 : Math.min(4, depth - 8);
        int packed = depth <= 10 ? 0 : LARGEST_LEAF << packedDepth;
        for (int from = 0; from < packed; from += 32) {
            Texts.insert(x, from, Texts.repeated("p", 32));
        }
        x.pack();
        int leaves = packed == 0 ? depth + 1 : depth - packedDepth;
        int rest = length - packed;
        for (int i = 0; i < leaves; i++) {
            // Those behind take one and two in turn at least, so that no two leaves of one meet and join.
            int behind = leastOf(i + 1, leaves);
            int size = Math.min(LARGEST_LEAF, rest - behind);
            x.setLeafSize(Math.max(2, size));
            Texts.insert(x, x.length(), Texts.repeated("s", size));
            rest -= size;
        }
        x.setLeafSize(LARGEST_LEAF);
        CHECK.due("depth of the spine", x.depth(), depth);
        CHECK.due("length of the spine", x.length(), length);
        return x;
    }

    private static int leastOf(int from, int leaves) {
        int least = 0;
        for (int i = from; i < leaves; i++) {
            least += (leaves - i) % 2 == 1 ? 1 : 2;
        }
        return least;
    }

    private static void balancedOrJustNot() {
        CHECK.promise("a rope of depth d is balanced if it has at least f(d + 1) characters, d from 4 to 12");
        int[] due = {8, 13, 21, 34, 55, 89, 144, 233, 377};
        for (int i = 0; i < due.length; i++) {
            int depth = 4 + i;
            CHECK.due("f(" + (depth + 1) + ")", fewest(depth), due[i]);
            CHECK.due(due[i] + " at depth " + depth, spine(depth, due[i]).isBalanced(), 1);
            CHECK.due(due[i] - 1 + " at depth " + depth, spine(depth, due[i] - 1).isBalanced(), 0);
        }
    }

    private static void neverBalancedAtDepth13() {
        CHECK.promise("no text of depth 13 or more is balanced, for f(14) = 610");
        TextRopes x = spine(13, 400);
        CHECK.due("400 at depth 13", x.isBalanced(), 0);
        x.setBalancing(1);
        CHECK.due("a move in it", x.move(0, 400, 0), 400);
        CHECK.due("builds()", x.builds(), 1);
        CHECK.due("isBalanced()", x.isBalanced(), 1);
        // At depth 46 and beyond the Fibonacci numbers are beyond the ints, and so are wrapped ones.
        TextRopes deep = new TextRopes();
        deep.setBalancing(0);
        deep.setLeafSize(2);
        for (int depth = 0; depth <= 100; depth++) {
            Texts.insert(deep, deep.length(), depth % 2 == 0 ? "ab" : "c");
            CHECK.due("depth()", deep.depth(), depth);
            CHECK.due("isBalanced() at depth " + depth, deep.isBalanced(), deep.length() >= fewest(Math.min(depth, 20)) ? 1 : 0);
        }
    }

    private static void builtWhereJustNotBalanced() {
        CHECK.promise("the text is built anew after a change that leaves it not balanced");
        for (int depth = 5; depth <= 12; depth++) {
            TextRopes x = spine(depth, fewest(depth) - 1);
            x.setBalancing(1);
            Texts.insert(x, x.length(), "e");
            CHECK.due("depth() after a change to just balanced", x.depth(), depth);
            CHECK.due("builds() after a change to just balanced", x.builds(), 0);
            x = spine(depth, fewest(depth) - 2);
            x.setBalancing(1);
            int leaves = x.leaves();
            Texts.insert(x, x.length(), "e");
            CHECK.due("builds() after a change to just not balanced", x.builds(), 1);
            CHECK.due("leaves() after the build", x.leaves(), leaves);
            CHECK.due("isBalanced() after the build", x.isBalanced(), 1);
            CHECK.holds("less depth after the build", x.depth() < depth);
        }
    }

    private static void builtAfterEachOfSixChanges() {
        CHECK.promise("insert(), delete(), cut(), paste(), move() and replaceAll() look at the balance");
        Bounds.Call[] changes = {
            x -> x.insert(0), x -> x.delete(11, 12), x -> x.cut(11, 12), x -> x.paste(0, 0),
            x -> x.move(11, 12, 11), TextRopes::replaceAll,
        };
        for (int i = 0; i < changes.length; i++) {
            TextRopes x = readyToBuild();
            CHECK.due("isBalanced() before change " + i, x.isBalanced(), 0);
            changes[i].on(x);
            CHECK.due("builds() after change " + i, x.builds(), 1);
            CHECK.due("isBalanced() after change " + i, x.isBalanced(), 1);
            x.undo();
            CHECK.due("builds() when it is undone", x.builds(), 0);
            CHECK.due("isBalanced() when it is undone", x.isBalanced(), 0);
            x = readyToBuild();
            x.setBalancing(0);
            changes[i].on(x);
            CHECK.due("builds() without balancing after change " + i, x.builds(), 0);
            CHECK.due("isBalanced() without balancing after change " + i, x.isBalanced(), 0);
        }
    }

    /** Far from balanced, with balancing, a rope of one in the ring and one character typed that occurs once. */
    private static TextRopes readyToBuild() {
        TextRopes x = Texts.unbalanced();
        Texts.insert(x, 9, "jk");
        Texts.insert(x, 11, "l");
        x.copy(0, 1);
        x.setBalancing(1);
        x.type('l');
        return x;
    }

    private static void balancingIsOnAtFirst() {
        CHECK.promise("balancing is on, as it is initially");
        TextRopes x = new TextRopes();
        x.setLeafSize(2);
        Texts.insert(x, 0, "ab");
        Texts.insert(x, 1, "abcde");
        CHECK.due("builds() of 7 at depth 4", x.builds(), 1);
        CHECK.due("built", Texts.shapeOf(x), "a@3 ab@3 cd@2 e@2 b@2");
        CHECK.due("setBalancing(1)", x.setBalancing(1), 1);
    }

    private static void lookedAtOnceAfterTheCall() {
        CHECK.promise("this is looked at once, after the whole call");
        // Without its last one it has 7 at depth 4, which is too few; with it the 8 that are due.
        TextRopes x = spine(4, 7);
        x.setLeafSize(2);
        Texts.insert(x, 7, "e");
        CHECK.due("isBalanced() with the last one", x.isBalanced(), 1);
        x.delete(7, 8);
        CHECK.due("isBalanced() without the last one", x.isBalanced(), 0);
        x.undo();
        x.setBalancing(1);
        x.move(7, 8, 7);
        CHECK.due("builds() after move()", x.builds(), 0);
        CHECK.due("depth() after move()", x.depth(), 4);
        x.copy(0, 1);
        x.type('e');
        CHECK.due("replaceAll() of the last one", x.replaceAll(), 1);
        CHECK.due("builds() after replaceAll()", x.builds(), 0);
        TextRopes z = Texts.unbalanced();
        Texts.insert(z, 9, "aaa");
        z.copy(1, 2);
        z.setBalancing(1);
        z.type('a');
        CHECK.due("replaceAll() of four", z.replaceAll(), 4);
        CHECK.due("builds() after four", z.builds(), 1);
    }

    private static void noOtherMethodBuilds() {
        CHECK.promise("no other method builds the text, and build() and pack() are not counted");
        Bounds.Call[] calls = {
            x -> x.setLeafSize(3), x -> x.setBalancing(1), x -> x.type('a'), x -> x.clearBuffer(), x -> x.copy(0, 3),
            x -> x.setMark(0, 2), x -> x.keep(0), x -> x.goBack(1), x -> x.difference(1), x -> x.find(0), x -> x.undo(),
            x -> x.insert(-1), x -> x.delete(0, 0), x -> x.paste(0, 4), x -> x.move(0, 12, 1),
        };
        for (int i = 0; i < calls.length; i++) {
            TextRopes x = readyToBuild();
            x.keep(1);
            x.setMark(1, 1);
            calls[i].on(x);
            CHECK.due("isBalanced() after call " + i, x.isBalanced(), 0);
            CHECK.due("builds() after call " + i, x.builds(), 0);
        }
        TextRopes x = readyToBuild();
        x.build();
        CHECK.due("builds() after build()", x.builds(), 0);
        x.pack();
        CHECK.due("builds() after pack()", x.builds(), 0);
        x.undo();
        x.undo();
        CHECK.due("isBalanced() when both are undone", x.isBalanced(), 0);
        CHECK.due("builds() when both are undone", x.builds(), 0);
    }

    private static void replaceAllWithoutOccurrence() {
        CHECK.promise("replaceAll() without an occurrence is no change of the text");
        TextRopes x = readyToBuild();
        x.type('z');
        CHECK.due("replaceAll()", x.replaceAll(), 0);
        CHECK.due("isBalanced()", x.isBalanced(), 0);
        CHECK.due("builds()", x.builds(), 0);
        x.clearBuffer();
        x.type('l');
        CHECK.due("replaceAll() with an occurrence", x.replaceAll(), 1);
        CHECK.due("builds() then", x.builds(), 1);
    }

    private static TextRopes marked(String text, int a, int b, int c, int d) {
        TextRopes x = Texts.holding(text);
        x.setMark(0, a);
        x.setMark(1, b);
        x.setMark(2, c);
        x.setMark(3, d);
        return x;
    }

    private static void marksWhereSomethingIsInserted() {
        CHECK.promise("each mark at a position of at least k goes on by n");
        TextRopes x = marked("abcdefghi", 3, 4, 5, 9);
        Texts.insert(x, 4, "xy");
        CHECK.due("below k, at k, above k, at the end", Texts.marksOf(x), "3 6 7 11");
        x = marked("abcdefghi", 0, 1, 8, 9);
        Texts.insert(x, 0, "x");
        CHECK.due("k = 0", Texts.marksOf(x), "1 2 9 10");
        x = marked("abcdefghi", 0, 7, 8, 9);
        Texts.insert(x, 9, "xyz");
        CHECK.due("k at the end", Texts.marksOf(x), "0 7 8 12");
        x = marked("abcdefghi", 2, 3, 4, 9);
        x.copy(0, 9);
        CHECK.due("copy leaves them", Texts.marksOf(x), "2 3 4 9");
        x.paste(3, 0);
        CHECK.due("paste at 3", Texts.marksOf(x), "2 12 13 18");
        x = new TextRopes();
        x.setMark(2, 0);
        Texts.insert(x, 0, "abc");
        CHECK.due("in an empty text", Texts.marksOf(x), "-5 -5 3 -5");
        x = marked(Texts.repeated("a", 399), 0, 398, 399, 200);
        Texts.insert(x, 0, "b");
        CHECK.due("up to 400", Texts.marksOf(x), "1 399 400 201");
    }

    private static void marksWhereSomethingIsTakenOut() {
        CHECK.promise("each mark above b goes back by b - a, and each mark from a to b goes to a");
        TextRopes x = marked("abcdefghi", 2, 3, 4, 5);
        x.delete(3, 6);
        CHECK.due("below a, at a, above a, below b", Texts.marksOf(x), "2 3 3 3");
        x = marked("abcdefghi", 5, 6, 7, 9);
        x.cut(3, 6);
        CHECK.due("below b, at b, above b, at the end", Texts.marksOf(x), "3 3 4 6");
        x = marked("abcdefghi", 0, 1, 8, 9);
        x.delete(0, 9);
        CHECK.due("all", Texts.marksOf(x), "0 0 0 0");
        x = marked("abcdefghi", 0, 1, 2, 9);
        x.delete(0, 1);
        CHECK.due("the first one", Texts.marksOf(x), "0 0 1 8");
        x = marked("abcdefghi", 7, 8, 9, 0);
        x.delete(8, 9);
        CHECK.due("the last one", Texts.marksOf(x), "7 8 8 0");
        x = marked("abcdefghi", 4, 5, 6, 3);
        x.delete(4, 5);
        CHECK.due("one inside", Texts.marksOf(x), "4 4 5 3");
    }

    private static void marksOfAMove() {
        CHECK.promise("move: marks are changed by both");
        TextRopes x = marked("abcdefghi", 2, 4, 5, 7);
        x.move(3, 6, 2);
        CHECK.due("back to 2", Texts.marksOf(x), "5 6 6 7");
        x = marked("abcdefghi", 2, 4, 6, 7);
        x.move(3, 6, 3);
        CHECK.due("to the same place", Texts.marksOf(x), "2 6 6 7");
        x = marked("abcdefghi", 2, 3, 6, 9);
        x.move(3, 6, 6);
        CHECK.due("to the end", Texts.marksOf(x), "2 3 3 9");
        x = marked("abcdefghi", 0, 1, 8, 9);
        x.move(0, 9, 0);
        CHECK.due("all", Texts.marksOf(x), "9 9 9 9");
    }

    private static void marksOfAReplacement() {
        CHECK.promise("replaceAll: the occurrence is taken out, and then the rope is inserted");
        TextRopes x = marked("xxabcxx", 1, 2, 3, 5);
        x.copy(0, 1);
        Texts.type(x, "abc");
        x.replaceAll();
        CHECK.due("below it, at its begin, in it, at its end", Texts.marksOf(x), "1 3 3 3");
        x = marked("abcabc", 0, 2, 3, 6);
        x.copy(1, 3);
        Texts.type(x, "a");
        CHECK.due("two occurrences", x.replaceAll(), 2);
        CHECK.due("text", Texts.textOf(x), "bcbcbcbc");
        CHECK.due("at the first, behind it, at the second, at the end", Texts.marksOf(x), "2 3 6 8");
    }

    private static void marksThatAreNotSet() {
        CHECK.promise("a mark that is not set stays so");
        TextRopes x = new TextRopes();
        x.keep(0);
        Texts.insert(x, 0, "abc");
        CHECK.due("after insert(0)", Texts.marksOf(x), "-5 -5 -5 -5");
        x.copy(0, 1);
        x.paste(0, 0);
        CHECK.due("after paste(0, 0)", Texts.marksOf(x), "-5 -5 -5 -5");
        x.move(0, 2, 0);
        x.move(0, 4, 0);
        CHECK.due("after move", Texts.marksOf(x), "-5 -5 -5 -5");
        x.type('b');
        x.replaceAll();
        CHECK.due("after replaceAll()", Texts.marksOf(x), "-5 -5 -5 -5");
        x.delete(0, 4);
        CHECK.due("after delete of all", Texts.marksOf(x), "-5 -5 -5 -5");
        x.goBack(0);
        CHECK.due("after goBack(0)", Texts.marksOf(x), "-5 -5 -5 -5");
        x.setMark(1, 0);
        x.undo();
        CHECK.due("after setMark(1, 0) and undo()", Texts.marksOf(x), "-5 -5 -5 -5");
    }

    private static String ringOf(TextRopes x) {
        StringBuilder ring = new StringBuilder();
        for (int rope = 0; rope < x.ring(); rope++) {
            ring.append(rope == 0 ? "" : " ").append(Texts.ringTextOf(x, rope));
        }
        return ring.toString();
    }

    private static void fifthRopeOfTheRing() {
        CHECK.promise("the ring has up to 4 ropes; when a fifth one comes, the oldest one is discarded");
        String[] due = {"", "a", "b a", "c b a", "d c b a", "e d c b", "f e d c"};
        TextRopes x = Texts.holding("abcdefgh");
        TextRopes y = Texts.holding("abcdefgh");
        for (int i = 0; i < due.length; i++) {
            CHECK.due("ring after " + i + " copies", ringOf(x), due[i]);
            CHECK.due("ring after " + i + " cuts", ringOf(y), due[i]);
            x.copy(i, i + 1);
            y.cut(0, 1);
        }
        CHECK.due("after seven copies", ringOf(x), "g f e d");
        x.undo();
        CHECK.due("undo() brings the discarded one back", ringOf(x), "f e d c");
        x.undo();
        x.undo();
        x.undo();
        CHECK.due("undo() to three", ringOf(x), "c b a");
        CHECK.due("paste(0, 3) of three", x.paste(0, 3), TextRopes.NO_SUCH);
        CHECK.due("paste(0, 2) of three", x.paste(0, 2), 9);
    }

    private static void bufferOf40() {
        CHECK.promise("a buffer of at most 40 characters, which is empty initially");
        TextRopes x = new TextRopes();
        CHECK.due("clearBuffer() at first", x.clearBuffer(), 0);
        for (int i = 1; i <= 40; i++) {
            CHECK.due("type", x.type(32 + i), i);
        }
        CHECK.due("the 41st", x.type('z'), TextRopes.LIMIT);
        CHECK.due("insert(0) of 40", x.insert(0), 40);
        for (int i = 0; i < 40; i++) {
            CHECK.due("character(" + i + ")", x.character(i), 33 + i);
        }
        CHECK.due("the first one again", x.type('z'), 1);
    }

    private static void seventhSavedState() {
        CHECK.promise("at most 6 states are saved; when a seventh one is saved, the oldest one is discarded");
        for (int saved = 5; saved <= 8; saved++) {
            TextRopes x = new TextRopes();
            for (int i = 0; i < saved; i++) {
                x.setLeafSize(2 + i);
            }
            int undone = 0;
            while (undone < 20 && x.undo() >= 0) {
                undone++;
            }
            CHECK.due("undone of " + saved, undone, Math.min(saved, 6));
            int oldest = saved <= 6 ? 8 : saved - 5;
            CHECK.due("the oldest state of " + saved, x.setLeafSize(2), oldest);
        }
    }

    private static void stateIsAllButThree() {
        CHECK.promise("the state is everything except the buffer, the versions and the saved states");
        TextRopes x = readyToBuild();
        x.setMark(1, 3);
        long digest = x.digest();
        x.insert(0);
        CHECK.due("undo() of text, builds and marks", x.undo() >= 0 ? x.digest() : 0, digest);
        CHECK.due("the buffer is not brought back", x.clearBuffer(), 0);
        x.setLeafSize(16);
        x.undo();
        CHECK.due("undo() of the leaf size", x.setLeafSize(2), 2);
        x.setBalancing(0);
        x.undo();
        CHECK.due("undo() of the balancing", x.setBalancing(1), 1);
        x.copy(0, 5);
        x.undo();
        CHECK.due("undo() of the ring", ringOf(x), "a");
        x.setMark(1, 0);
        x.undo();
        CHECK.due("undo() of a mark", x.mark(1), 3);
        x.setMark(1, 4);
        x.type('q');
        x.keep(2);
        x.undo();
        CHECK.due("undo() leaves what was typed", x.clearBuffer(), 1);
        CHECK.due("undo() leaves what was kept", x.difference(2), TextRopes.NONE);
        x.goBack(2);
        CHECK.due("undo() of goBack", x.undo() >= 0 ? x.digest() : 0, digest);
    }

    private static void noneIsNoErrorCode() {
        CHECK.promise("NONE is not an error code");
        TextRopes x = Texts.holding("abc");
        CHECK.due("setMark that answers NONE", x.setMark(0, 1), TextRopes.NONE);
        CHECK.due("it has changed something", x.mark(0), 1);
        CHECK.due("it has saved a state", x.undo(), 1);
        CHECK.due("the saved state", x.mark(0), TextRopes.NONE);
        CHECK.due("setMark(4, 0)", x.setMark(4, 0), TextRopes.NO_SUCH);
        CHECK.due("an error code saves nothing", x.undo(), 0);
    }

    private static void lastOf512Calls() {
        CHECK.promise("an object is used for at most 512 calls");
        TextRopes x = new TextRopes();
        Model m = new Model();
        int calls = 0;
        while (calls < 508) {
            x.type('a' + calls % 26);
            m.type('a' + calls % 26);
            x.insert(x.length() / 2);
            m.insert(m.length() / 2);
            calls += 3;
            if (calls % 4 == 0) {
                x.cut(0, 1);
                m.cut(0, 1);
                calls++;
            }
        }
        while (calls < 511) {
            CHECK.due("undo() near the last call", x.undo(), m.undo());
            calls++;
        }
        CHECK.due("digest(), the last of 512 calls", x.digest(), m.digest());
    }
}
