/** The example of README.md: behind each line that prints stands what it prints. */
public final class Example {
    public static void main(String[] args) {
        TextRopes editor = new TextRopes();

        // Characters are typed into the buffer; insert() moves them from there into the text.
        System.out.println(editor.setLeafSize(4));    // 8: the leaf size before
        type(editor, "banana");
        System.out.println(editor.insert(0));         // 6: the length of the text
        System.out.println(editor.leaves());          // 2: "bana" and "na"
        System.out.println(editor.setMark(0, 4));     // -5: NONE, for this mark was not set before
        System.out.println(editor.keep(0));           // 6: the length of what is version 0 now

        // cut() and copy() put a piece into the ring; paste() inserts it, and it stays in the ring.
        System.out.println(editor.cut(0, 2));         // 4: the length of the text then
        System.out.println(textOf(editor));           // nana
        System.out.println(editor.mark(0));           // 2: the mark went along with the last "na"
        System.out.println(editor.paste(4, 0));       // 6: the "ba" of the ring stands at 4
        System.out.println(textOf(editor));           // nanaba

        // The buffer is also what find() looks for, and what replaceAll() replaces by rope 0 of the ring.
        type(editor, "na");
        System.out.println(editor.find(1));           // 2: the first "na" from position 1 on
        System.out.println(editor.replaceAll());      // 2: so many were replaced
        System.out.println(textOf(editor));           // bababa
        System.out.println(editor.clearBuffer());     // 2: replaceAll() left the buffer as it was

        // A call that is refused answers a negative number and changes nothing.
        System.out.println(editor.character(6));      // -1: NO_SUCH, for the last character stands at 5
        System.out.println(editor.setLeafSize(17));   // -2: BAD_VALUE, for a leaf size is 2 to 16
        System.out.println(editor.insert(0));         // -3: NOT_POSSIBLE, for the buffer is empty

        // undo() takes back the last call that is "Undoable"; a version is kept until another replaces it.
        System.out.println(editor.undo());            // 5: so many more calls can be taken back
        System.out.println(textOf(editor));           // nanaba
        System.out.println(editor.difference(0));     // 0: version 0 begins with another character
        System.out.println(editor.goBack(0));         // 6: the length of the text then
        System.out.println(textOf(editor));           // banana

        // Character 10 ends a line.
        editor.type(10);
        System.out.println(editor.insert(3));         // 7: "ban" and "ana" are lines now
        System.out.println(editor.lines());           // 2: one more than the ends of lines
        System.out.println(editor.lineStart(1));      // 4: where "ana" begins
    }

    private static void type(TextRopes editor, String characters) {
        for (int i = 0; i < characters.length(); i++) {
            editor.type(characters.charAt(i));
        }
    }

    private static String textOf(TextRopes editor) {
        StringBuilder text = new StringBuilder();
        for (int i = 0; i < editor.length(); i++) {
            text.append((char) editor.character(i));
        }
        return text.toString();
    }
}
