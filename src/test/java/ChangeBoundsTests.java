/**
 * The bounds that promises 1 to 14 name: for each argument the last value inside its range and the
 * first ones outside it, and for each error code a look that the refused call changed nothing.
 */
public final class ChangeBoundsTests {
    private static final Check CHECK = new Check("ChangeBoundsTests");
    private static final int NO_SUCH = TextRopes.NO_SUCH;
    private static final int BAD_VALUE = TextRopes.BAD_VALUE;
    private static final int NOT_POSSIBLE = TextRopes.NOT_POSSIBLE;
    private static final int LIMIT = TextRopes.LIMIT;

    /** delete(), cut() and copy(), which take the same arguments. */
    private interface OfPiece {
        int on(TextRopes x, int from, int to);
    }

    private static Bounds[] editors;

    public static void main(String[] args) {
        editors = Editors.all(CHECK);
        leafSizes();
        balancing();
        codes();
        bufferOfForty();
        clearing();
        insertPositions();
        insertCodesInOrder();
        insertUpTo400();
        pieces("promise 7, delete", "delete", TextRopes::delete);
        pieces("promise 8, cut", "cut", TextRopes::cut);
        pieces("promise 9, copy", "copy", TextRopes::copy);
        takingOutAtTheEnds();
        copyAtTheEnds();
        pasteArguments();
        pasteUpTo400();
        movePieces();
        movePositions();
        moveAtTheEnds();
        replaceAllNotPossible();
        replaceAllUpTo400();
        replaceAllWithoutOccurrence();
        buildAndPack();
        CHECK.end();
    }

    private static void leafSizes() {
        CHECK.promise("promise 2, size is 2 to 16");
        for (Bounds b : editors) {
            int previous = b.editor().setLeafSize(4);
            for (int bad : Bounds.outside(2, 16)) {
                b.refused("setLeafSize(" + bad + ")", x -> x.setLeafSize(bad), BAD_VALUE);
            }
            b.saves("setLeafSize(2)", x -> x.setLeafSize(2), previous);
            b.saves("setLeafSize(16)", x -> x.setLeafSize(16), previous);
            b.saves("the same size once more", x -> x.setLeafSize(previous), previous);
        }
        TextRopes x = new TextRopes();
        CHECK.due("setLeafSize(16)", x.setLeafSize(16), 8);
        CHECK.due("setLeafSize(17)", x.setLeafSize(17), BAD_VALUE);
        CHECK.due("setLeafSize(2), the size stayed 16", x.setLeafSize(2), 16);
        CHECK.due("setLeafSize(1)", x.setLeafSize(1), BAD_VALUE);
        CHECK.due("setLeafSize(8), the size stayed 2", x.setLeafSize(8), 2);
    }

    private static void balancing() {
        CHECK.promise("promise 3, on is 1 or 0");
        for (Bounds b : editors) {
            int previous = b.editor().setBalancing(0);
            for (int bad : Bounds.outside(0, 1)) {
                b.refused("setBalancing(" + bad + ")", x -> x.setBalancing(bad), BAD_VALUE);
            }
            b.saves("setBalancing(0)", x -> x.setBalancing(0), previous);
            b.saves("setBalancing(1)", x -> x.setBalancing(1), previous);
        }
    }

    private static void codes() {
        CHECK.promise("promise 4, code is 32 to 126, or 10");
        for (Bounds b : editors) {
            for (int bad : Bounds.outside(32, 126)) {
                b.refused("type(" + bad + "), in a full buffer too", x -> x.type(bad), BAD_VALUE);
            }
            for (int bad : Bounds.outside(10, 10)) {
                b.refused("type(" + bad + "), in a full buffer too", x -> x.type(bad), BAD_VALUE);
            }
            b.refused("type(0)", x -> x.type(0), BAD_VALUE);
            b.refused("type(13)", x -> x.type(13), BAD_VALUE);
            b.refused("type(256 + 97)", x -> x.type(256 + 97), BAD_VALUE);
            int typed = b.editor().clearBuffer();
            for (int code : new int[] {10, 32, 126}) {
                int due = typed == 40 ? LIMIT : typed + 1;
                b.savesNothing("type(" + code + ")", x -> x.type(code), due);
            }
        }
        TextRopes x = new TextRopes();
        for (int code : new int[] {10, 31, 32, 126, 127, 9, 11}) {
            x.type(code);
        }
        CHECK.due("insert(0)", x.insert(0), 3);
        CHECK.due("the characters that were typed", Texts.textOf(x), "\n ~");
    }

    private static void bufferOfForty() {
        CHECK.promise("promise 4, LIMIT if the buffer has 40 characters");
        Bounds almost = new Bounds(CHECK, "39 typed", () -> {
            TextRopes x = new TextRopes();
            Texts.type(x, Texts.repeated("abc", 13));
            return x;
        });
        almost.savesNothing("type(97), the 40th", x -> x.type(97), 40);
        almost.refused("type(127)", x -> x.type(127), BAD_VALUE);
        Bounds full = Editors.full(CHECK);
        full.refused("type(32), the 41st", x -> x.type(32), LIMIT);
        full.refused("type(126), the 41st", x -> x.type(126), LIMIT);
        full.refused("type(10), the 41st", x -> x.type(10), LIMIT);
        full.refused("type(9), and out of range", x -> x.type(9), BAD_VALUE);
        TextRopes x = Editors.full();
        x.clearBuffer();
        CHECK.due("type(97) in a buffer that was full", x.type(97), 1);
    }

    private static void clearing() {
        CHECK.promise("promise 5, clearBuffer");
        int[] typed = {0, 2, 40, 40, 0};
        for (int i = 0; i < editors.length; i++) {
            editors[i].savesNothing("clearBuffer()", TextRopes::clearBuffer, typed[i]);
            TextRopes x = editors[i].editor();
            x.clearBuffer();
            CHECK.due("clearBuffer() of an empty buffer", x.clearBuffer(), 0);
            CHECK.due("insert(0) of an empty buffer", x.insert(0), NOT_POSSIBLE);
        }
    }

    private static void insertPositions() {
        CHECK.promise("promise 6, position is 0 to the length of the text");
        for (Bounds b : editors) {
            for (int bad : Bounds.outside(0, b.length())) {
                b.refused("insert(" + bad + ")", x -> x.insert(bad), NO_SUCH);
            }
        }
        Bounds some = Editors.some(CHECK);
        some.saves("insert(0)", x -> x.insert(0), 11);
        some.saves("insert(9)", x -> x.insert(9), 11);
        TextRopes x = some.editor();
        x.insert(0);
        CHECK.due("in front of all", Texts.textOf(x), "deab\ndefghi");
        x = some.editor();
        x.insert(9);
        CHECK.due("behind all", Texts.textOf(x), "ab\ndefghide");
        CHECK.due("the buffer is empty then", x.clearBuffer(), 0);
        Bounds emptied = Editors.emptied(CHECK);
        emptied.saves("insert(0) in an empty text", y -> y.insert(0), 40);
        Bounds one = new Bounds(CHECK, "one typed", () -> {
            TextRopes y = new TextRopes();
            y.type('a');
            return y;
        });
        one.saves("insert(0), the first character", y -> y.insert(0), 1);
        one.refused("insert(1) in an empty text", y -> y.insert(1), NO_SUCH);
    }

    private static void insertCodesInOrder() {
        CHECK.promise("promise 6, NO_SUCH, NOT_POSSIBLE, LIMIT in this order");
        Bounds fresh = Editors.fresh(CHECK);
        fresh.refused("insert(0), nothing typed", x -> x.insert(0), NOT_POSSIBLE);
        fresh.refused("insert(1), nothing typed", x -> x.insert(1), NO_SUCH);
        Bounds full = Editors.full(CHECK);
        for (int position : new int[] {0, 1, 200, 400}) {
            full.refused("insert(" + position + ") at 400", x -> x.insert(position), LIMIT);
        }
        full.refused("insert(401) at 400", x -> x.insert(401), NO_SUCH);
        full.refused("insert(-1) at 400", x -> x.insert(-1), NO_SUCH);
        Bounds nothing = Editors.nothingTyped(CHECK);
        nothing.refused("insert(0), nothing typed, at 400", x -> x.insert(0), NOT_POSSIBLE);
        nothing.refused("insert(400), nothing typed, at 400", x -> x.insert(400), NOT_POSSIBLE);
        nothing.refused("insert(401), nothing typed, at 400", x -> x.insert(401), NO_SUCH);
    }

    private static void insertUpTo400() {
        CHECK.promise("promise 6, LIMIT if the text would have more than 400 characters");
        Bounds room = new Bounds(CHECK, "room for 40", () -> {
            TextRopes x = Editors.full();
            x.delete(100, 140);
            return x;
        });
        room.saves("insert(0) to 400", x -> x.insert(0), 400);
        room.saves("insert(360) to 400", x -> x.insert(360), 400);
        room.refused("insert(361)", x -> x.insert(361), NO_SUCH);
        Bounds less = new Bounds(CHECK, "room for 39", () -> {
            TextRopes x = Editors.full();
            x.delete(100, 139);
            return x;
        });
        less.refused("insert(0) to 401", x -> x.insert(0), LIMIT);
        less.refused("insert(361) to 401", x -> x.insert(361), LIMIT);
        less.refused("insert(362)", x -> x.insert(362), NO_SUCH);
        Bounds oneMore = new Bounds(CHECK, "one more than there is room for", () -> {
            TextRopes x = Editors.nothingTyped();
            x.type('a');
            return x;
        });
        oneMore.refused("insert(400) to 401", x -> x.insert(400), LIMIT);
    }

    private static void pieces(String promise, String name, OfPiece call) {
        CHECK.promise(promise + ": from and to are 0 to the length of the text, to is greater than from");
        for (Bounds b : editors) {
            int length = b.length();
            for (int bad : Bounds.outside(0, length)) {
                b.refused(name + " from " + bad, x -> call.on(x, bad, length), NO_SUCH);
                b.refused(name + " to " + bad, x -> call.on(x, 0, bad), NO_SUCH);
                b.refused(name + " from and to " + bad, x -> call.on(x, bad, bad), NO_SUCH);
                b.refused(name + " from " + bad + " to less", x -> call.on(x, bad, -1), NO_SUCH);
            }
            b.refused(name + " from the greatest to the least", x -> call.on(x, Integer.MAX_VALUE, Integer.MIN_VALUE), NO_SUCH);
            b.refused(name + " from the least to the greatest", x -> call.on(x, Integer.MIN_VALUE, Integer.MAX_VALUE), NO_SUCH);
            b.refused(name + "(0, 0)", x -> call.on(x, 0, 0), BAD_VALUE);
            b.refused(name + " of nothing at the end", x -> call.on(x, length, length), BAD_VALUE);
            if (length > 0) {
                b.refused(name + "(1, 0)", x -> call.on(x, 1, 0), BAD_VALUE);
                b.refused(name + " from the end to 0", x -> call.on(x, length, 0), BAD_VALUE);
                b.refused(name + " from the end to one less", x -> call.on(x, length, length - 1), BAD_VALUE);
            }
        }
    }

    private static void takingOutAtTheEnds() {
        CHECK.promise("promises 7 and 8, delete and cut at both ends");
        for (Bounds b : new Bounds[] {Editors.some(CHECK), Editors.full(CHECK)}) {
            int length = b.length();
            b.saves("delete(0, 1)", x -> x.delete(0, 1), length - 1);
            b.saves("delete of the last one", x -> x.delete(length - 1, length), length - 1);
            b.saves("delete of all", x -> x.delete(0, length), 0);
            b.saves("cut(0, 1)", x -> x.cut(0, 1), length - 1);
            b.saves("cut of the last one", x -> x.cut(length - 1, length), length - 1);
            b.saves("cut of all", x -> x.cut(0, length), 0);
        }
        TextRopes x = Editors.some();
        x.delete(0, 1);
        CHECK.due("text without the first one", Texts.textOf(x), "b\ndefghi");
        x.delete(7, 8);
        CHECK.due("text without the last one", Texts.textOf(x), "b\ndefgh");
        CHECK.due("ring() after delete", x.ring(), 2);
        x.cut(6, 7);
        CHECK.due("text without the last one", Texts.textOf(x), "b\ndefg");
        CHECK.due("the rope that was cut", Texts.ringTextOf(x, 0), "h");
        x.cut(0, 6);
        CHECK.due("text without all", Texts.textOf(x), "");
        CHECK.due("the rope that was cut", Texts.ringTextOf(x, 0), "b\ndefg");
        CHECK.due("delete(0, 1) in an empty text", x.delete(0, 1), NO_SUCH);
        CHECK.due("delete(0, 0) in an empty text", x.delete(0, 0), BAD_VALUE);
        CHECK.due("cut(0, 1) in an empty text", x.cut(0, 1), NO_SUCH);
        CHECK.due("copy(0, 1) in an empty text", x.copy(0, 1), NO_SUCH);
        CHECK.due("move(0, 1, 0) in an empty text", x.move(0, 1, 0), NO_SUCH);
    }

    private static void copyAtTheEnds() {
        CHECK.promise("promise 9, copy at both ends");
        for (Bounds b : new Bounds[] {Editors.some(CHECK), Editors.full(CHECK)}) {
            int length = b.length();
            int leaves = b.editor().leaves();
            b.saves("copy(0, 1)", x -> x.copy(0, 1), 1);
            b.saves("copy of the last one", x -> x.copy(length - 1, length), 1);
            b.saves("copy of all", x -> x.copy(0, length), leaves);
            TextRopes x = b.editor();
            int first = x.character(0);
            int last = x.character(length - 1);
            x.copy(0, 1);
            CHECK.due("the first one", x.ringCharacter(0, 0), first);
            x.copy(length - 1, length);
            CHECK.due("the last one", x.ringCharacter(0, 0), last);
            x.copy(0, length);
            CHECK.due("all", x.ofRing(0, 0), length);
            CHECK.due("the depth of all", x.ofRing(0, 1), x.depth());
            CHECK.due("length() after copy", x.length(), length);
        }
    }

    private static void pasteArguments() {
        CHECK.promise("promise 10, NO_SUCH if there is no such position or rope");
        int[] ropes = {0, 2, 4, 4, 4};
        for (int i = 0; i < editors.length; i++) {
            Bounds b = editors[i];
            for (int bad : Bounds.outside(0, b.length())) {
                b.refused("paste(" + bad + ", 0)", x -> x.paste(bad, 0), NO_SUCH);
                b.refused("paste(" + bad + ", " + bad + ")", x -> x.paste(bad, bad), NO_SUCH);
            }
            for (int bad : Bounds.outside(0, ropes[i] - 1)) {
                b.refused("paste(0, " + bad + ")", x -> x.paste(0, bad), NO_SUCH);
            }
        }
        Bounds some = Editors.some(CHECK);
        some.saves("paste(0, 0)", x -> x.paste(0, 0), 15);
        some.saves("paste(9, 1)", x -> x.paste(9, 1), 11);
        TextRopes x = some.editor();
        x.paste(9, 0);
        x.paste(0, 1);
        CHECK.due("behind all and in front of all", Texts.textOf(x), "abab\ndefghidefghi");
        CHECK.due("the ropes stay", x.ring(), 2);
        Bounds emptied = Editors.emptied(CHECK);
        emptied.saves("paste(0, 3) in an empty text", y -> y.paste(0, 3), 140);
        emptied.saves("paste(0, 0) in an empty text", y -> y.paste(0, 0), 29);
    }

    private static void pasteUpTo400() {
        CHECK.promise("promise 10, LIMIT if the text would have more than 400 characters");
        Bounds full = Editors.full(CHECK);
        full.refused("paste(0, 0) at 400", x -> x.paste(0, 0), LIMIT);
        full.refused("paste(400, 3) at 400", x -> x.paste(400, 3), LIMIT);
        full.refused("paste(401, 0) at 400", x -> x.paste(401, 0), NO_SUCH);
        full.refused("paste(0, 4) at 400", x -> x.paste(0, 4), NO_SUCH);
        Bounds room = new Bounds(CHECK, "room for the rope 0", () -> {
            TextRopes x = Editors.full();
            x.delete(0, 29);
            return x;
        });
        room.saves("paste(371, 0) to 400", x -> x.paste(371, 0), 400);
        room.refused("paste(371, 2), of 95", x -> x.paste(371, 2), LIMIT);
        room.refused("paste(0, 3), of 140", x -> x.paste(0, 3), LIMIT);
        Bounds less = new Bounds(CHECK, "room for one less", () -> {
            TextRopes x = Editors.full();
            x.delete(0, 28);
            return x;
        });
        less.refused("paste(0, 0) to 401", x -> x.paste(0, 0), LIMIT);
        less.saves("paste(0, 1)", x -> x.paste(0, 1), 382);
        TextRopes x = Texts.holding(Texts.repeated("a", 40));
        for (int length = 80; length <= 320; length *= 2) {
            x.copy(0, x.length());
            CHECK.due("doubled", x.paste(x.length(), 0), length);
        }
        CHECK.due("doubled beyond 400", x.copy(0, 320) > 0 ? x.paste(0, 0) : 0, LIMIT);
    }

    private static void movePieces() {
        pieces("promise 11, move to 0", "move to 0", (x, from, to) -> x.move(from, to, 0));
        pieces("promise 11, move to no position", "move to -1", (x, from, to) -> x.move(from, to, -1));
    }

    private static void movePositions() {
        CHECK.promise("promise 11, BAD_VALUE if position is not 0 to the length of the text without them");
        for (Bounds b : new Bounds[] {Editors.some(CHECK), Editors.full(CHECK)}) {
            int length = b.length();
            for (int count : new int[] {1, 3, length - 1, length}) {
                for (int bad : Bounds.outside(0, length - count)) {
                    b.refused("move(0, " + count + ", " + bad + ")", x -> x.move(0, count, bad), BAD_VALUE);
                }
                b.saves("move(0, " + count + ", 0)", x -> x.move(0, count, 0), count);
                b.saves("move(0, " + count + ") to the end", x -> x.move(0, count, length - count), length);
                b.saves("move the last " + count + " to 0", x -> x.move(length - count, length, 0), count);
                b.saves("move the last " + count + " to the end", x -> x.move(length - count, length, length - count), length);
            }
        }
        Bounds some = Editors.some(CHECK);
        some.refused("move(2, 5, 7), a position of the text with them", x -> x.move(2, 5, 7), BAD_VALUE);
        some.refused("move(2, 5, 9), the end of the text with them", x -> x.move(2, 5, 9), BAD_VALUE);
        some.refused("move(10, 11, 20)", x -> x.move(10, 11, 20), NO_SUCH);
        some.refused("move(0, 10, 20)", x -> x.move(0, 10, 20), NO_SUCH);
    }

    private static void moveAtTheEnds() {
        CHECK.promise("promise 11, move at both ends");
        String[] due = {"b\ndefghia", "iab\ndefgh", "ab\ndefghi", "ab\ndefghi", "\ndefghiab", "b\ndefgahi"};
        int[][] moves = {{0, 1, 8}, {8, 9, 0}, {0, 9, 0}, {3, 6, 3}, {2, 9, 0}, {0, 1, 6}};
        for (int i = 0; i < moves.length; i++) {
            TextRopes x = Editors.some();
            int[] move = moves[i];
            CHECK.due("the position behind them", x.move(move[0], move[1], move[2]), move[2] + move[1] - move[0]);
            CHECK.due("text after move " + i, Texts.textOf(x), due[i]);
            CHECK.due("ring() after move", x.ring(), 2);
        }
    }

    private static void replaceAllNotPossible() {
        CHECK.promise("promise 12, NOT_POSSIBLE if the buffer or the ring is empty");
        Editors.fresh(CHECK).refused("replaceAll() without both", TextRopes::replaceAll, NOT_POSSIBLE);
        Editors.nothingTyped(CHECK).refused("replaceAll() without a buffer", TextRopes::replaceAll, NOT_POSSIBLE);
        Bounds noRing = new Bounds(CHECK, "no ring", () -> {
            TextRopes x = Texts.holding(Texts.repeated("ab", 200));
            x.type('a');
            return x;
        });
        noRing.refused("replaceAll() without a ring", TextRopes::replaceAll, NOT_POSSIBLE);
        Bounds undone = new Bounds(CHECK, "ring undone", () -> {
            TextRopes x = Texts.holding("aba");
            x.copy(0, 1);
            x.undo();
            x.type('a');
            return x;
        });
        undone.refused("replaceAll() without a ring any more", TextRopes::replaceAll, NOT_POSSIBLE);
    }

    /** A text of the given length that begins with nine times "ab", with a rope of 20 in the ring and "ab" typed. */
    private static Bounds nineOccurrences(String name, int length) {
        return new Bounds(CHECK, name, () -> {
            TextRopes x = Texts.holding(Texts.repeated("ab", 9) + Texts.repeated("c", length - 18));
            x.copy(length - 20, length);
            Texts.type(x, "ab");
            return x;
        });
    }

    private static void replaceAllUpTo400() {
        CHECK.promise("promise 12, LIMIT if the text would have more than 400 characters after all");
        nineOccurrences("238 characters", 238).saves("replaceAll() to 400", TextRopes::replaceAll, 9);
        nineOccurrences("239 characters", 239).refused("replaceAll() to 401", TextRopes::replaceAll, LIMIT);
        nineOccurrences("400 characters", 400).refused("replaceAll() to 562", TextRopes::replaceAll, LIMIT);
        TextRopes x = nineOccurrences("238 characters", 238).editor();
        x.replaceAll();
        CHECK.due("length() then", x.length(), 400);
        CHECK.due("the buffer stays", x.clearBuffer(), 2);
        Bounds whole = new Bounds(CHECK, "400 of one letter", () -> {
            TextRopes y = Texts.holding(Texts.repeated("a", 400));
            y.copy(0, 400);
            y.type('a');
            return y;
        });
        whole.refused("replaceAll() to 160,000", TextRopes::replaceAll, LIMIT);
        Bounds one = new Bounds(CHECK, "400 of one letter, one in the ring", () -> {
            TextRopes y = Texts.holding(Texts.repeated("a", 400));
            y.copy(399, 400);
            y.type('a');
            return y;
        });
        one.saves("replaceAll() of 400 at 400", TextRopes::replaceAll, 400);
    }

    private static void replaceAllWithoutOccurrence() {
        CHECK.promise("promise 12, no occurrence");
        Editors.full(CHECK).saves("replaceAll() at 400", TextRopes::replaceAll, 0);
        Editors.emptied(CHECK).saves("replaceAll() in an empty text", TextRopes::replaceAll, 0);
        Bounds longer = new Bounds(CHECK, "a buffer longer than the text", () -> {
            TextRopes x = Texts.holding("aaa");
            x.copy(0, 1);
            Texts.type(x, "aaaa");
            return x;
        });
        longer.saves("replaceAll()", TextRopes::replaceAll, 0);
        Bounds same = new Bounds(CHECK, "a buffer as long as the text", () -> {
            TextRopes x = Texts.holding("aaa");
            x.copy(0, 1);
            Texts.type(x, "aaa");
            return x;
        });
        same.saves("replaceAll()", TextRopes::replaceAll, 1);
    }

    private static void buildAndPack() {
        CHECK.promise("promises 13 and 14, build and pack of all texts");
        int[] depths = {0, 1, 8, 0, 8};
        int[] leaves = {0, 2, 80, 0, 80};
        for (int i = 0; i < editors.length; i++) {
            editors[i].saves("build()", TextRopes::build, depths[i]);
            editors[i].saves("pack()", TextRopes::pack, leaves[i]);
            TextRopes x = editors[i].editor();
            int builds = x.builds();
            int count = x.leaves();
            x.build();
            CHECK.due("leaves() after build()", x.leaves(), count);
            x.pack();
            CHECK.due("depth() after pack()", x.depth(), leaves[i] == 80 ? 7 : depths[i]);
            CHECK.due("builds() after both", x.builds(), builds);
        }
        TextRopes x = Texts.holding(Texts.repeated("a", 400));
        x.setLeafSize(2);
        CHECK.due("pack() to the most leaves", x.pack(), 200);
        CHECK.due("build() of them", x.build(), 8);
        x.setLeafSize(16);
        CHECK.due("pack() to the fewest leaves", x.pack(), 25);
        CHECK.due("build() of them", x.build(), 5);
    }
}
