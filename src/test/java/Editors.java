/** Editors that are empty, ordinary or full to the bounds of the document. */
final class Editors {
    static final String SOME_TEXT = "ab\ndefghi";
    private static final String FORTY = "abc\ndefghijklmnopqrstuvwxyz ABCDEFG~\n!12";

    private Editors() {
    }

    static Bounds fresh(Check check) {
        return new Bounds(check, "fresh", TextRopes::new);
    }

    static Bounds some(Check check) {
        return new Bounds(check, "some", Editors::some);
    }

    static Bounds full(Check check) {
        return new Bounds(check, "full", Editors::full);
    }

    static Bounds emptied(Check check) {
        return new Bounds(check, "emptied", Editors::emptied);
    }

    static Bounds nothingTyped(Check check) {
        return new Bounds(check, "nothing typed", Editors::nothingTyped);
    }

    static Bounds[] all(Check check) {
        return new Bounds[] {fresh(check), some(check), full(check), emptied(check), nothingTyped(check)};
    }

    /** 9 characters in 2 leaves, "de" typed, 2 ropes in the ring, mark 1, version 1, 4 saved states. */
    static TextRopes some() {
        TextRopes x = Texts.holding(SOME_TEXT);
        x.copy(0, 2);
        x.copy(3, 9);
        x.setMark(1, 4);
        x.keep(1);
        Texts.type(x, "de");
        return x;
    }

    /** 400 characters, 40 typed, 4 ropes, all marks and versions, 6 saved states that differ in all they hold. */
    static TextRopes full() {
        TextRopes x = new TextRopes();
        x.setLeafSize(3);
        Texts.insert(x, 0, FORTY);
        x.keep(0);
        x.copy(3, 40);
        x.paste(7, 0);
        x.setMark(0, 0);
        x.setMark(1, 50);
        x.setMark(2, 76);
        x.copy(1, 70);
        x.paste(20, 0);
        x.keep(1);
        x.copy(0, 140);
        x.paste(50, 0);
        x.copy(5, 100);
        x.paste(130, 0);
        x.cut(60, 70);
        x.setBalancing(0);
        x.setLeafSize(5);
        x.copy(100, 129);
        x.setMark(3, 371);
        x.paste(371, 0);
        x.keep(2);
        Texts.type(x, FORTY);
        return x;
    }

    /** As full(), but without a text. */
    static TextRopes emptied() {
        TextRopes x = full();
        x.delete(0, 400);
        return x;
    }

    /** As full(), but without a buffer. */
    static TextRopes nothingTyped() {
        TextRopes x = full();
        x.clearBuffer();
        return x;
    }
}
