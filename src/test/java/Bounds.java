import java.util.List;
import java.util.function.Supplier;

/** Makes calls at the bounds of what the document allows, and looks at all that the editor holds then. */
final class Bounds {
    /** What is done to an editor. */
    interface Call {
        int on(TextRopes x);
    }

    /** The least int and the greatest one, the value of a mark that is not set, and one with low bits of 0. */
    private static final int[] FAR_OFF = {Integer.MIN_VALUE, -5, 1 << 16, Integer.MAX_VALUE};
    private static final int MOST_SAVED = 6;

    private final Check check;
    private final String name;
    private final Supplier<TextRopes> maker;
    private final String before;
    private final List<String> statesBefore;

    Bounds(Check check, String name, Supplier<TextRopes> maker) {
        this.check = check;
        this.name = name;
        this.maker = maker;
        this.before = Everything.of(maker);
        this.statesBefore = Everything.states(maker);
    }

    /** The values beside a range on both sides, and those far off it. */
    static int[] outside(int lowest, int highest) {
        int[] values = new int[2 + FAR_OFF.length];
        values[0] = lowest - 1;
        values[1] = highest + 1;
        System.arraycopy(FAR_OFF, 0, values, 2, FAR_OFF.length);
        return values;
    }

    TextRopes editor() {
        return maker.get();
    }

    int length() {
        return maker.get().length();
    }

    /** The call answers an error code, changes nothing and saves no state. */
    void refused(String told, Call call, int code) {
        changesNothing(told, call, code);
    }

    /** The call answers a question, and changes nothing. */
    void asked(String told, Call call, int due) {
        changesNothing(told, call, due);
    }

    private void changesNothing(String told, Call call, int due) {
        check.due(name + ": " + told, call.on(maker.get()), due);
        check.due(name + ": all after " + told, Everything.of(after(call)), before);
    }

    /** The call saves the state from before, and the oldest one goes if there were six. */
    void saves(String told, Call call, int due) {
        check.due(name + ": " + told, call.on(maker.get()), due);
        List<String> states = Everything.states(after(call));
        List<String> kept = statesBefore.subList(0, Math.min(MOST_SAVED, statesBefore.size()));
        check.due(name + ": states saved after " + told, states.subList(1, states.size()).toString(), kept.toString());
    }

    /** The call saves no state, and leaves those that are saved. */
    void savesNothing(String told, Call call, int due) {
        check.due(name + ": " + told, call.on(maker.get()), due);
        check.due(name + ": states after " + told, Everything.states(after(call)).toString(), statesBefore.toString());
    }

    private Supplier<TextRopes> after(Call call) {
        return () -> {
            TextRopes x = maker.get();
            call.on(x);
            return x;
        };
    }
}
