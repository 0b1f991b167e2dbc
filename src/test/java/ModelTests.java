/**
 * Walks of many calls, each answered by the class and by the model of the document alike. They go
 * on beyond the 512 calls that are promised, so that nodes are collected and used again.
 */
public final class ModelTests {
    private static final int STEPS = 300;
    private static final int WALKS_OF_A_KIND = 150;
    private static final int KINDS = 6;
    private static final int[] FAR_VALUES = {-1, Integer.MIN_VALUE, Integer.MAX_VALUE, 401, -5, 3, 4, 7};

    private static int deepest = 0;

    private final Check check;
    private final int kind;
    private final Both both;
    private long seed;

    private ModelTests(Check check, int kind, long seed) {
        this.check = check;
        this.kind = kind;
        this.both = new Both(check);
        this.seed = seed * 2862933555777941757L + 3037000493L;
    }

    public static void main(String[] args) {
        Check check = new Check("ModelTests");
        for (int kind = 0; kind < KINDS; kind++) {
            check.promise("walks of kind " + kind);
            for (int walk = 0; walk < WALKS_OF_A_KIND; walk++) {
                new ModelTests(check, kind, 1000L * kind + walk).walk();
            }
        }
        check.holds("that the walks reach deep texts, but " + deepest, deepest > 60);
        check.end();
    }

    private boolean isDeepKind() {
        return kind == 1 || kind == 2 || kind == 5;
    }

    private void walk() {
        if (isDeepKind()) {
            both.setBalancing(0);
        }
        if (kind == 2 || kind == 3 || kind == 5) {
            both.setLeafSize(2);
        }
        for (int i = 0; i < STEPS && check.wrongAnswers() == 0; i++) {
            oneStep();
            deepest = Math.max(deepest, both.m.depth());
        }
    }

    private int below(int bound) {
        seed = seed * 6364136223846793005L + 1442695040888963407L;
        return (int) Math.floorMod(seed >>> 33, (long) Math.max(1, bound));
    }

    /** Mostly a value from 0 to highest, now and then one beside or far off it. */
    private int about(int highest) {
        int chance = below(40);
        if (chance == 0) {
            return FAR_VALUES[below(FAR_VALUES.length)];
        }
        if (chance == 1) {
            return highest + 1;
        }
        if (chance == 2) {
            return -1;
        }
        return below(highest + 1);
    }

    private int behind(int from) {
        int most = kind == 5 ? 3 : 1 + below(30);
        int to = below(25) == 0 ? about(both.m.length()) : from + 1 + below(most);
        return below(20) == 0 || to <= both.m.length() ? to : both.m.length();
    }

    private void oneStep() {
        int chance = below(100);
        if (chance < 30) {
            fillAndUseBuffer();
        } else if (chance < 65) {
            change();
        } else if (chance < 72) {
            both.setMark(about(3), about(both.m.length()));
            both.difference(about(2));
        } else if (chance < 92) {
            ask();
        } else if (chance < 96) {
            both.keep(about(2));
        } else {
            both.undo();
        }
    }

    private void fillAndUseBuffer() {
        int letters = kind == 4 ? 1 : kind == 5 ? 2 : 3;
        int count = kind == 5 ? 1 + below(3) : 1 + below(kind == 0 ? 40 : 6);
        for (int i = 0; i < count; i++) {
            int code = below(12) == 0 ? 10 : 97 + below(letters);
            both.type(below(200) == 0 ? about(130) : code);
        }
        int chance = below(10);
        if (chance < 6) {
            both.insert(about(both.m.length()));
        } else if (chance < 8) {
            both.replaceAll();
        }
        if (below(3) > 0) {
            both.clearBuffer();
        }
    }

    private void change() {
        int length = both.m.length();
        int from = about(length);
        int to = behind(from);
        switch (below(9)) {
            case 0 -> both.delete(from, to);
            case 1 -> both.cut(from, to);
            case 2, 3 -> both.copy(from, to);
            case 4, 5, 6 -> both.paste(from, about(Math.max(0, both.m.ring() - 1)));
            case 7 -> both.move(from, to, about(Math.max(0, length - Math.abs(to - from))));
            default -> rareChange();
        }
    }

    private void rareChange() {
        int chance = below(isDeepKind() ? 60 : 8);
        switch (chance) {
            case 0 -> both.build();
            case 1 -> both.pack();
            case 2 -> both.setBalancing(about(1));
            case 3, 4 -> both.setLeafSize(kind == 2 || kind == 5 ? 2 + below(2) : about(18));
            case 5 -> both.goBack(about(2));
            default -> both.replaceAll();
        }
    }

    private void ask() {
        switch (below(8)) {
            case 0, 1 -> both.askAt(about(both.m.length()));
            case 2 -> both.askLine(about(both.m.lines()));
            case 3 -> both.askRing(about(3), about(2));
            case 4 -> both.askRingCharacter(about(3), about(both.m.length()));
            case 5 -> both.askLeaf(about(both.m.leaves()), about(2));
            case 6 -> both.askMark(about(3));
            default -> both.askAboutText();
        }
    }
}
