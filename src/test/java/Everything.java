import java.util.ArrayList;
import java.util.List;
import java.util.function.Supplier;

/**
 * Reads all that an editor holds, also what no question tells: each reading takes an editor of its own
 * apart, so that two editors are alike to every later call if their readings are.
 */
final class Everything {
    private static final int MORE_THAN_ARE_SAVED = 10;

    private Everything() {
    }

    static String of(Supplier<TextRopes> maker) {
        StringBuilder all = new StringBuilder();
        for (String state : states(maker)) {
            all.append(state).append('\n');
        }
        for (int version = 0; version < 3; version++) {
            all.append(version(maker.get(), version)).append('\n');
        }
        return all.append(buffer(maker.get())).toString();
    }

    /** The state as it is, and then the saved ones, the latest first. */
    static List<String> states(Supplier<TextRopes> maker) {
        List<String> states = new ArrayList<>();
        for (int back = 0; back < MORE_THAN_ARE_SAVED; back++) {
            TextRopes x = maker.get();
            int left = 0;
            for (int i = 0; i < back && left >= 0; i++) {
                left = x.undo();
            }
            if (left < 0) {
                return states;
            }
            states.add(state(x));
        }
        return states;
    }

    private static String state(TextRopes x) {
        StringBuilder all = new StringBuilder("state " + x.digest());
        all.append(", leaf size ").append(x.setLeafSize(2)).append(", balancing ").append(x.setBalancing(0));
        makeEmpty(x);
        // The ring tells no levels of its leaves, so each of its ropes is looked at as a text.
        for (int rope = 0; rope < x.ring(); rope++) {
            x.paste(0, rope);
            all.append(", rope ").append(x.digest());
            makeEmpty(x);
        }
        return all.toString();
    }

    private static String version(TextRopes x, int version) {
        int difference = x.difference(version);
        return "version " + difference + ", " + x.goBack(version) + ", " + x.digest();
    }

    private static String buffer(TextRopes x) {
        makeEmpty(x);
        x.setLeafSize(8);
        return "buffer " + x.insert(0) + ", " + x.digest();
    }

    private static void makeEmpty(TextRopes x) {
        if (x.length() > 0) {
            x.delete(0, x.length());
        }
    }
}
