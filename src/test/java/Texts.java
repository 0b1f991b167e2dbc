/** Short ways to fill an editor and to read all that it holds. */
final class Texts {
    private Texts() {
    }

    /** An editor that holds a text of at most 400 characters, put in piece by piece at its end. */
    static TextRopes holding(String text) {
        TextRopes x = new TextRopes();
        for (int from = 0; from < text.length(); from += 40) {
            type(x, text.substring(from, Math.min(from + 40, text.length())));
            x.insert(x.length());
        }
        return x;
    }

    /** An editor without balancing and with leaves of 2, whose text has 9 characters where 13 would be due. */
    static TextRopes unbalanced() {
        TextRopes x = new TextRopes();
        x.setBalancing(0);
        unbalance(x);
        return x;
    }

    /** Leaves of two and of one characters in turn, which do not join, come under one another. */
    static void unbalance(TextRopes x) {
        x.setLeafSize(2);
        for (String piece : new String[] {"ab", "c", "de", "f", "gh", "i"}) {
            insert(x, x.length(), piece);
        }
    }

    static void type(TextRopes x, String text) {
        for (int i = 0; i < text.length(); i++) {
            x.type(text.charAt(i));
        }
    }

    static int insert(TextRopes x, int position, String text) {
        type(x, text);
        return x.insert(position);
    }

    static String textOf(TextRopes x) {
        StringBuilder text = new StringBuilder();
        for (int i = 0; i < x.length(); i++) {
            text.append((char) x.character(i));
        }
        return text.toString();
    }

    static String ringTextOf(TextRopes x, int rope) {
        StringBuilder text = new StringBuilder();
        for (int i = 0; i < x.ofRing(rope, 0); i++) {
            text.append((char) x.ringCharacter(rope, i));
        }
        return text.toString();
    }

    /** The leaves from the left, each with its level: "abc@2 d@2 ef@1". */
    static String shapeOf(TextRopes x) {
        String text = textOf(x);
        StringBuilder shape = new StringBuilder();
        for (int i = 0; i < x.leaves(); i++) {
            int start = x.leaf(i, 0);
            shape.append(i == 0 ? "" : " ").append(text, start, start + x.leaf(i, 1));
            shape.append('@').append(x.leaf(i, 2));
        }
        return shape.toString();
    }

    static String marksOf(TextRopes x) {
        return x.mark(0) + " " + x.mark(1) + " " + x.mark(2) + " " + x.mark(3);
    }

    static String repeated(String piece, int times) {
        return piece.repeat(times);
    }
}
