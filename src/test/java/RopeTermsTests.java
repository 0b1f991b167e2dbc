import java.util.function.Supplier;

/** "Terms" of the document, from ropes to splitting: each sentence that names a boundary case. */
public final class RopeTermsTests {
    private static final Check CHECK = new Check("RopeTermsTests");

    public static void main(String[] args) {
        emptyRope();
        leavesOfOneTo16();
        partsAreNotEmpty();
        charactersInOrder();
        depths();
        leafNumbers();
        firstLeafSize();
        leafSizesAtTheBounds();
        builtOfFewLeaves();
        builtOfManyLeaves();
        lastLeafMayBeShorter();
        joinWithEmpty();
        joinTwoLeaves();
        joinPairAndLeaf();
        joinLeafAndPair();
        joinOtherwise();
        joinByTheLeafSizeOfNow();
        splitAtTheEnds();
        splitOfLeaf();
        splitBetweenTheParts();
        splitInTheLeftPart();
        splitInTheRightPart();
        splitJoinsLeaves();
        insertJoinsInOrder();
        takingOutJoins();
        CHECK.end();
    }

    /** An editor without balancing, whose text is a rope of these characters alone. */
    private static TextRopes made(int leafSize, String text) {
        TextRopes x = new TextRopes();
        x.setBalancing(0);
        x.setLeafSize(leafSize);
        Texts.insert(x, 0, text);
        return x;
    }

    /** The shape of what cut() takes out, looked at as a text. */
    private static String shapeOfPiece(TextRopes x, int from, int to) {
        if (from == to) {
            return "";
        }
        x.cut(from, to);
        if (x.length() > 0) {
            x.delete(0, x.length());
        }
        x.paste(0, 0);
        return Texts.shapeOf(x);
    }

    /** Both ropes into which the text is split at k. */
    private static String splitAt(Supplier<TextRopes> maker, int k) {
        int length = maker.get().length();
        return shapeOfPiece(maker.get(), 0, k) + " | " + shapeOfPiece(maker.get(), k, length);
    }

    private static void emptyRope() {
        CHECK.promise("a rope is empty, a leaf or a pair");
        TextRopes x = made(2, "abc");
        CHECK.due("a pair", Texts.shapeOf(x), "ab@1 c@1");
        x.delete(2, 3);
        CHECK.due("a leaf", Texts.shapeOf(x), "ab@0");
        x.delete(0, 2);
        CHECK.due("empty", Texts.shapeOf(x), "");
        CHECK.due("leaves() of the empty rope", x.leaves(), 0);
        CHECK.due("leaf(0, 0) of the empty rope", x.leaf(0, 0), TextRopes.NO_SUCH);
    }

    private static void leavesOfOneTo16() {
        CHECK.promise("a leaf holds 1 to 16 characters");
        CHECK.due("1", Texts.shapeOf(made(16, "a")), "a@0");
        CHECK.due("15", Texts.shapeOf(made(16, "abcdefghijklmno")), "abcdefghijklmno@0");
        CHECK.due("16", Texts.shapeOf(made(16, "abcdefghijklmnop")), "abcdefghijklmnop@0");
        CHECK.due("17", Texts.shapeOf(made(16, "abcdefghijklmnopq")), "abcdefghijklmnop@1 q@1");
        TextRopes x = made(16, "abcdefghijklmno");
        Texts.insert(x, 15, "p");
        CHECK.due("15 and 1 joined", Texts.shapeOf(x), "abcdefghijklmnop@0");
        Texts.insert(x, 16, "q");
        CHECK.due("16 and 1 not joined", Texts.shapeOf(x), "abcdefghijklmnop@1 q@1");
        CHECK.due("all of a leaf of 16", Texts.textOf(x), "abcdefghijklmnopq");
    }

    private static void partsAreNotEmpty() {
        CHECK.promise("the parts of a pair are ropes that are not empty");
        TextRopes x = made(2, "abcdef");
        CHECK.due("built", Texts.shapeOf(x), "ab@2 cd@2 ef@1");
        x.delete(0, 4);
        CHECK.due("without all of the left part", Texts.shapeOf(x), "ef@0");
        x.undo();
        x.delete(4, 6);
        CHECK.due("without all of the right part", Texts.shapeOf(x), "ab@1 cd@1");
        x.delete(0, 2);
        CHECK.due("without its left part again", Texts.shapeOf(x), "cd@0");
        x = made(2, "abcdef");
        x.delete(2, 4);
        CHECK.due("without a leaf inside", Texts.shapeOf(x), "ab@1 ef@1");
    }

    private static void charactersInOrder() {
        CHECK.promise("the characters of the left part are followed by those of the right part");
        for (int size : new int[] {2, 3, 16}) {
            TextRopes x = made(size, "0123456789abcdefghi");
            CHECK.due("text of leaves of " + size, Texts.textOf(x), "0123456789abcdefghi");
            x.copy(0, 19);
            CHECK.due("rope of leaves of " + size, Texts.ringTextOf(x, 0), "0123456789abcdefghi");
        }
    }

    private static void depths() {
        CHECK.promise("depth 0, and 1 more than the greater one of the depths of the parts");
        CHECK.due("empty", new TextRopes().depth(), 0);
        CHECK.due("a leaf of one", made(2, "a").depth(), 0);
        CHECK.due("a full leaf", made(2, "ab").depth(), 0);
        CHECK.due("two leaves", made(2, "abc").depth(), 1);
        CHECK.due("3 leaves, the left part is deeper", made(2, "abcdef").depth(), 2);
        CHECK.due("4 leaves, both parts are alike", made(2, "abcdefgh").depth(), 2);
        CHECK.due("5 leaves", made(2, "abcdefghij").depth(), 3);
        TextRopes x = made(2, "abcdefgh");
        Texts.insert(x, 0, "xy");
        CHECK.due("the right part is deeper", x.depth(), 3);
        x.copy(0, 10);
        CHECK.due("depth of it in the ring", x.ofRing(0, 1), 3);
        x.copy(0, 2);
        CHECK.due("depth of a leaf in the ring", x.ofRing(0, 1), 0);
    }

    private static void leafNumbers() {
        CHECK.promise("the leaves of a rope are numbered from the left, from 0");
        TextRopes x = made(2, "abcdefghij");
        for (int leaf = 0; leaf < 5; leaf++) {
            CHECK.due("start of leaf " + leaf, x.leaf(leaf, 0), 2 * leaf);
        }
        CHECK.due("leaf(5, 0)", x.leaf(5, 0), TextRopes.NO_SUCH);
        CHECK.due("leaf(-1, 0)", x.leaf(-1, 0), TextRopes.NO_SUCH);
    }

    private static void firstLeafSize() {
        CHECK.promise("the leaf size is initially 8");
        TextRopes x = new TextRopes();
        Texts.insert(x, 0, "abcdefgh");
        CHECK.due("8", Texts.shapeOf(x), "abcdefgh@0");
        x = new TextRopes();
        Texts.insert(x, 0, "abcdefghi");
        CHECK.due("9", Texts.shapeOf(x), "abcdefgh@1 i@1");
        x = new TextRopes();
        Texts.insert(x, 0, "abcdefg");
        Texts.insert(x, 7, "h");
        CHECK.due("7 and 1", Texts.shapeOf(x), "abcdefgh@0");
        Texts.insert(x, 8, "i");
        CHECK.due("8 and 1", Texts.shapeOf(x), "abcdefgh@1 i@1");
        CHECK.due("setLeafSize(8)", x.setLeafSize(8), 8);
    }

    private static void leafSizesAtTheBounds() {
        CHECK.promise("the leaf size s is 2 to 16");
        for (int size = 2; size <= 16; size++) {
            String text = "abcdefghijklmnopq".substring(0, size);
            CHECK.due("one leaf of " + size, Texts.shapeOf(made(size, text)), text + "@0");
            CHECK.due("one more than " + size, Texts.shapeOf(made(size, text + "z")), text + "@1 z@1");
        }
    }

    private static void builtOfFewLeaves() {
        CHECK.promise("to build a rope of n leaves: the first (n + 1) / 2, and the others");
        String[] due = {"", "ab@0", "ab@1 cd@1", "ab@2 cd@2 ef@1", "ab@2 cd@2 ef@2 gh@2",
            "ab@3 cd@3 ef@2 gh@2 ij@2", "ab@3 cd@3 ef@2 gh@3 ij@3 kl@2", "ab@3 cd@3 ef@3 gh@3 ij@3 kl@3 mn@2"};
        for (int n = 0; n < due.length; n++) {
            TextRopes x = made(2, "abcdefghijklmn".substring(0, 2 * n));
            CHECK.due("made of " + n + " leaves", Texts.shapeOf(x), due[n]);
            x.build();
            CHECK.due("built of " + n + " leaves", Texts.shapeOf(x), due[n]);
            x.pack();
            CHECK.due("packed to " + n + " leaves", Texts.shapeOf(x), due[n]);
        }
    }

    private static void builtOfManyLeaves() {
        CHECK.promise("to build a rope of up to 200 leaves");
        TextRopes x = Texts.holding(Texts.repeated("ab", 200));
        x.setLeafSize(2);
        x.pack();
        for (int leaf = 0; leaf < 200; leaf++) {
            CHECK.due("level of leaf " + leaf, x.leaf(leaf, 2), levelOf(leaf, 200));
        }
        x = Texts.holding(Texts.repeated("ab", 129));
        x.setLeafSize(2);
        CHECK.due("129 leaves, one more than a full tree", x.pack(), 129);
        CHECK.due("depth of 129 leaves", x.depth(), 8);
        x.delete(256, 258);
        CHECK.due("build() of 128 leaves, a full tree", x.build(), 7);
    }

    private static int levelOf(int leaf, int count) {
        if (count == 1) {
            return 0;
        }
        int half = (count + 1) / 2;
        return 1 + (leaf < half ? levelOf(leaf, half) : levelOf(leaf - half, count - half));
    }

    private static void lastLeafMayBeShorter() {
        CHECK.promise("leaves of s characters are cut from the left, the last one may be shorter");
        String[] due = {"a@0", "ab@0", "abc@0", "abc@1 d@1", "abc@1 de@1", "abc@1 def@1", "abc@2 def@2 g@1"};
        for (int i = 0; i < due.length; i++) {
            String text = "abcdefg".substring(0, i + 1);
            CHECK.due(text + " inserted", Texts.shapeOf(made(3, text)), due[i]);
            TextRopes x = made(2, text);
            x.setLeafSize(3);
            x.pack();
            CHECK.due(text + " packed", Texts.shapeOf(x), due[i]);
        }
        CHECK.due("40 characters in leaves of 2", made(2, Texts.repeated("ab", 20)).leaves(), 20);
        CHECK.due("39 characters in leaves of 2", made(2, Texts.repeated("abc", 13)).leaves(), 20);
        CHECK.due("40 characters in leaves of 16", made(16, Texts.repeated("ab", 20)).leaves(), 3);
        CHECK.due("the shorter last one", made(16, Texts.repeated("ab", 20)).leaf(2, 1), 8);
    }

    private static void joinWithEmpty() {
        CHECK.promise("joining 1: if a is empty, the result is b; if b is empty, it is a");
        TextRopes x = made(4, "abcdefghi");
        CHECK.due("both empty, and then b", Texts.shapeOf(x), "abcd@2 efgh@2 i@1");
        x.copy(0, 9);
        x.delete(0, 9);
        CHECK.due("both empty", Texts.shapeOf(x), "");
        x.paste(0, 0);
        CHECK.due("b alone, also a pair", Texts.shapeOf(x), "abcd@2 efgh@2 i@1");
        x.delete(0, 4);
        CHECK.due("a is empty", Texts.shapeOf(x), "efgh@1 i@1");
        x.delete(4, 5);
        CHECK.due("b is empty", Texts.shapeOf(x), "efgh@0");
    }

    private static void joinTwoLeaves() {
        CHECK.promise("joining 2: two leaves that have at most s characters together");
        TextRopes x = made(4, "abc");
        Texts.insert(x, 3, "d");
        CHECK.due("3 and 1", Texts.shapeOf(x), "abcd@0");
        x.undo();
        Texts.insert(x, 3, "de");
        CHECK.due("3 and 2", Texts.shapeOf(x), "abc@1 de@1");
        x.undo();
        Texts.insert(x, 0, "d");
        CHECK.due("1 and 3", Texts.shapeOf(x), "dabc@0");
        x.undo();
        Texts.insert(x, 0, "de");
        CHECK.due("2 and 3", Texts.shapeOf(x), "de@1 abc@1");
        TextRopes two = made(2, "a");
        Texts.insert(two, 1, "b");
        CHECK.due("1 and 1 at the least leaf size", Texts.shapeOf(two), "ab@0");
        Texts.insert(two, 2, "c");
        CHECK.due("2 and 1 at the least leaf size", Texts.shapeOf(two), "ab@1 c@1");
    }

    private static void joinPairAndLeaf() {
        CHECK.promise("joining 3: a is a pair whose right part is a leaf, and b is a leaf");
        TextRopes x = made(4, "abcdef");
        Texts.insert(x, 6, "gh");
        CHECK.due("2 and 2", Texts.shapeOf(x), "abcd@1 efgh@1");
        x.undo();
        Texts.insert(x, 6, "ghi");
        CHECK.due("2 and 3", Texts.shapeOf(x), "abcd@2 ef@2 ghi@1");
        x = made(4, "abcdefghijklmn");
        CHECK.due("built", Texts.shapeOf(x), "abcd@2 efgh@2 ijkl@2 mn@2");
        Texts.insert(x, 14, "o");
        CHECK.due("the right part is a pair, though its last leaf has room", Texts.shapeOf(x),
                "abcd@3 efgh@3 ijkl@3 mn@3 o@1");
        Texts.insert(x, 15, "pqr");
        CHECK.due("1 and 3", Texts.shapeOf(x), "abcd@3 efgh@3 ijkl@3 mn@3 opqr@1");
    }

    private static void joinLeafAndPair() {
        CHECK.promise("joining 4: a is a leaf, and b is a pair whose left part is a leaf");
        TextRopes x = made(4, "abcdef");
        x.delete(0, 2);
        CHECK.due("2 before a leaf of 2", Texts.shapeOf(x), "cdef@0");
        x = made(4, "abcdefgh");
        x.delete(0, 1);
        Texts.insert(x, 0, "x");
        CHECK.due("1 and 3", Texts.shapeOf(x), "xbcd@1 efgh@1");
        x.undo();
        Texts.insert(x, 0, "xy");
        CHECK.due("2 and 3", Texts.shapeOf(x), "xy@1 bcd@2 efgh@2");
        x = made(4, "abcdefghijkl");
        x.delete(0, 2);
        CHECK.due("a leaf with room, in a left part that is a pair", Texts.shapeOf(x), "cd@2 efgh@2 ijkl@1");
        Texts.insert(x, 0, "x");
        CHECK.due("the left part is a pair, though its first leaf has room", Texts.shapeOf(x), "x@1 cd@3 efgh@3 ijkl@2");
    }

    private static void joinOtherwise() {
        CHECK.promise("joining 5: otherwise the pair of a and b");
        TextRopes x = made(4, "abcdefgh");
        x.copy(3, 8);
        x.delete(5, 8);
        x.paste(5, 0);
        CHECK.due("two pairs, though their inner leaves have 2 together", Texts.shapeOf(x), "abcd@2 e@2 d@2 efgh@2");
        x = made(4, "abcde");
        Texts.insert(x, 5, "fghij");
        CHECK.due("two pairs that were built", Texts.shapeOf(x), "abcd@2 e@2 fghi@2 j@2");
        x.delete(5, 8);
        CHECK.due("a pair, and a leaf that fits", Texts.shapeOf(x), "abcd@1 eij@1");
        x = made(4, "abcdefgh");
        Texts.insert(x, 4, "12345");
        CHECK.due("a full leaf, a pair and a full leaf", Texts.shapeOf(x), "abcd@2 1234@3 5@3 efgh@1");
    }

    private static void joinByTheLeafSizeOfNow() {
        CHECK.promise("joining looks at the leaf size of now, and leaves that exist stay as they are");
        TextRopes x = made(8, "abcdefgh");
        x.setLeafSize(2);
        Texts.insert(x, 8, "i");
        CHECK.due("a leaf of more than s", Texts.shapeOf(x), "abcdefgh@1 i@1");
        x.delete(2, 8);
        CHECK.due("2 and 1 with s = 2", Texts.shapeOf(x), "ab@1 i@1");
        x.undo();
        x.delete(1, 8);
        CHECK.due("1 and 1 with s = 2", Texts.shapeOf(x), "ai@0");
        x = made(2, "abcd");
        x.setLeafSize(16);
        Texts.insert(x, 4, "efghijklmnopqr");
        CHECK.due("2 and 14 with s = 16", Texts.shapeOf(x), "ab@1 cdefghijklmnopqr@1");
        x.undo();
        Texts.insert(x, 4, "efghijklmnopqrs");
        CHECK.due("2 and 15 with s = 16", Texts.shapeOf(x), "ab@2 cd@2 efghijklmnopqrs@1");
    }

    private static void splitAtTheEnds() {
        CHECK.promise("splitting at 0 and at the length: one is empty and the other one the whole rope");
        Supplier<TextRopes> pairs = () -> made(4, "abcdefghijkl");
        CHECK.due("at 0", splitAt(pairs, 0), " | abcd@2 efgh@2 ijkl@1");
        CHECK.due("at the length", splitAt(pairs, 12), "abcd@2 efgh@2 ijkl@1 | ");
        Supplier<TextRopes> leaf = () -> made(4, "abcd");
        CHECK.due("a leaf at 0", splitAt(leaf, 0), " | abcd@0");
        CHECK.due("a leaf at its length", splitAt(leaf, 4), "abcd@0 | ");
        Supplier<TextRopes> room = () -> {
            TextRopes x = made(4, "abcdefghijkl");
            x.setLeafSize(16);
            return x;
        };
        CHECK.due("at 0, where all leaves would fit in one", splitAt(room, 0), " | abcd@2 efgh@2 ijkl@1");
        CHECK.due("at the length, where all leaves would fit in one", splitAt(room, 12), "abcd@2 efgh@2 ijkl@1 | ");
    }

    private static void splitOfLeaf() {
        CHECK.promise("a leaf is split into two leaves");
        Supplier<TextRopes> leaf = () -> made(4, "abcd");
        CHECK.due("behind its first", splitAt(leaf, 1), "a@0 | bcd@0");
        CHECK.due("in its middle", splitAt(leaf, 2), "ab@0 | cd@0");
        CHECK.due("before its last", splitAt(leaf, 3), "abc@0 | d@0");
        Supplier<TextRopes> large = () -> made(16, "abcdefghijklmnop");
        CHECK.due("behind 7 of 16", splitAt(large, 7), "abcdefg@0 | hijklmnop@0");
        CHECK.due("behind 8 of 16", splitAt(large, 8), "abcdefgh@0 | ijklmnop@0");
        CHECK.due("behind 9 of 16", splitAt(large, 9), "abcdefghi@0 | jklmnop@0");
        CHECK.due("behind 15 of 16", splitAt(large, 15), "abcdefghijklmno@0 | p@0");
    }

    private static void splitBetweenTheParts() {
        CHECK.promise("splitting at k = w: the results are both parts");
        Supplier<TextRopes> pairs = () -> made(4, "abcdefghijkl");
        CHECK.due("k = w", splitAt(pairs, 8), "abcd@1 efgh@1 | ijkl@0");
        Supplier<TextRopes> room = () -> {
            TextRopes x = made(4, "abcdefghijkl");
            x.setLeafSize(16);
            return x;
        };
        CHECK.due("k = w, where all leaves would fit in one", splitAt(room, 8), "abcd@1 efgh@1 | ijkl@0");
        CHECK.due("k = w of two leaves", splitAt(() -> made(4, "abcde"), 4), "abcd@0 | e@0");
    }

    private static void splitInTheLeftPart() {
        CHECK.promise("splitting at k < w: the results are x and the join of y and the right part");
        Supplier<TextRopes> pairs = () -> made(4, "abcdefghijkl");
        CHECK.due("k = 1", splitAt(pairs, 1), "a@0 | bcd@2 efgh@2 ijkl@1");
        CHECK.due("k = 3", splitAt(pairs, 3), "abc@0 | d@2 efgh@2 ijkl@1");
        CHECK.due("k = 4, between the parts of the left part", splitAt(pairs, 4), "abcd@0 | efgh@1 ijkl@1");
        CHECK.due("k = 5", splitAt(pairs, 5), "abcd@1 e@1 | fgh@1 ijkl@1");
        CHECK.due("k = 7, one less than w", splitAt(pairs, 7), "abcd@1 efg@1 | h@1 ijkl@1");
    }

    private static void splitInTheRightPart() {
        CHECK.promise("splitting at k > w: the results are the join of the left part and x, and y");
        Supplier<TextRopes> pairs = () -> made(4, "abcdefghijkl");
        CHECK.due("k = 9, one more than w", splitAt(pairs, 9), "abcd@2 efgh@2 i@1 | jkl@0");
        CHECK.due("k = 11", splitAt(pairs, 11), "abcd@2 efgh@2 ijk@1 | l@0");
        Supplier<TextRopes> four = () -> made(4, "abcdefghijklmnop");
        CHECK.due("k = 12, between the parts of the right part", splitAt(four, 12), "abcd@2 efgh@2 ijkl@1 | mnop@0");
        CHECK.due("k = 13", splitAt(four, 13), "abcd@2 efgh@2 ijkl@2 m@2 | nop@0");
    }

    private static void splitJoinsLeaves() {
        CHECK.promise("splitting joins leaves that have at most s characters together");
        Supplier<TextRopes> five = () -> {
            TextRopes x = made(4, "abcdefghijkl");
            x.setLeafSize(5);
            return x;
        };
        CHECK.due("y joined with the right part", splitAt(five, 3), "abc@0 | defgh@1 ijkl@1");
        CHECK.due("y of 2 not joined", splitAt(five, 2), "ab@0 | cd@2 efgh@2 ijkl@1");
        CHECK.due("y of 1 joined above", splitAt(five, 7), "abcd@1 efg@1 | hijkl@0");
        CHECK.due("y of 2 not joined above", splitAt(five, 6), "abcd@1 ef@1 | gh@1 ijkl@1");
        CHECK.due("the left part joined with x", splitAt(five, 9), "abcd@1 efghi@1 | jkl@0");
        CHECK.due("x of 2 not joined", splitAt(five, 10), "abcd@2 efgh@2 ij@1 | kl@0");
    }

    private static void insertJoinsInOrder() {
        CHECK.promise("to insert: the join of (the join of x and r) and y");
        TextRopes x = made(4, "abcd");
        Texts.insert(x, 2, "z");
        CHECK.due("r goes to x", Texts.shapeOf(x), "abz@1 cd@1");
        x.undo();
        Texts.insert(x, 3, "zz");
        CHECK.due("r does not fit to x, and takes y as the right part of their pair", Texts.shapeOf(x), "abc@1 zzd@1");
        x.undo();
        Texts.insert(x, 0, "z");
        CHECK.due("x is empty", Texts.shapeOf(x), "z@1 abcd@1");
        x.undo();
        Texts.insert(x, 4, "z");
        CHECK.due("y is empty", Texts.shapeOf(x), "abcd@1 z@1");
    }

    private static void takingOutJoins() {
        CHECK.promise("to take out: the text becomes the join of x and z, and m is what was taken out");
        TextRopes x = made(4, "abcdefghijkl");
        x.cut(3, 11);
        CHECK.due("x and z in one leaf", Texts.shapeOf(x), "abcl@0");
        CHECK.due("m", Texts.ringTextOf(x, 0), "defghijk");
        CHECK.due("leaves of m", x.ofRing(0, 2), 3);
        x.undo();
        x.cut(3, 10);
        CHECK.due("x and z in two leaves", Texts.shapeOf(x), "abc@1 kl@1");
        x.undo();
        CHECK.due("copy of the same, leaf by leaf", x.copy(3, 11), 3);
        CHECK.due("m of copy", Texts.ringTextOf(x, 0), "defghijk");
    }
}
