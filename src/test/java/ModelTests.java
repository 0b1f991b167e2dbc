/**
 * Walks of many calls, each answered by the class and by the model of the document alike. They go
 * on beyond the 512 calls that are promised, so that nodes are collected and used again often.
 */
public final class ModelTests {
    private static final int STEPS = 500;
    private static final int WALKS_OF_A_KIND = 250;
    private static final int[] FAR_VALUES = {-1, Integer.MIN_VALUE, Integer.MAX_VALUE, 401, -5, 3, 4, 7};

    private final Check check;
    private final int kind;
    private final TextRopes x = new TextRopes();
    private final Model m = new Model();
    private long seed;
    private String done = "";
    static int deepest = 0;
    static int mostLeaves = 0;

    private ModelTests(Check check, int kind, long seed) {
        this.check = check;
        this.kind = kind;
        this.seed = seed * 2862933555777941757L + 3037000493L;
    }

    public static void main(String[] args) {
        Check check = new Check("ModelTests");
        for (int kind = 0; kind < 6; kind++) {
            check.promise("walks of kind " + kind);
            for (int walk = 0; walk < WALKS_OF_A_KIND; walk++) {
                new ModelTests(check, kind, 1000L * kind + walk).walk();
            }
        }
        System.out.println("deepest text " + deepest + ", most leaves " + mostLeaves);
        check.holds("the walks reach deep texts", deepest > 60);
        check.end();
    }

    private void walk() {
        settle();
        for (int i = 0; i < STEPS && check.wrongAnswers() == 0; i++) {
            oneCall();
            same("digest()", x.digest(), m.digest());
            deepest = Math.max(deepest, x.depth());
            mostLeaves = Math.max(mostLeaves, x.leaves());
        }
        if (check.wrongAnswers() == 1) {
            System.out.println("the calls before it: " + done);
        }
    }

    /** What the kinds of walks begin with, so that they reach different texts. */
    private void settle() {
        if (kind == 1 || kind == 2 || kind == 5) {
            same("setBalancing(0)", x.setBalancing(0), m.setBalancing(0));
        }
        if (kind == 2 || kind == 3 || kind == 5) {
            same("setLeafSize(2)", x.setLeafSize(2), m.setLeafSize(2));
        }
    }

    private void same(String call, long got, long want) {
        done += call + "; ";
        if (done.length() > 3000) {
            done = ".. " + done.substring(done.length() - 2000);
        }
        check.due(call, got, want);
    }

    private int below(int bound) {
        seed = seed * 6364136223846793005L + 1442695040888963407L;
        return (int) Math.floorMod(seed >>> 33, (long) Math.max(1, bound));
    }

    /** Mostly a value from 0 to highest, now and then one beside or far off it. */
    private int about(int highest) {
        int chance = below(40);
        if (chance == 0) {
            return FAR_VALUES[below(FAR_VALUES.length)];
        }
        if (chance == 1) {
            return highest + 1;
        }
        if (chance == 2) {
            return -1;
        }
        return below(highest + 1);
    }

    private int behind(int from) {
        int most = kind == 5 ? 3 : 1 + below(30);
        int to = below(25) == 0 ? about(m.length()) : from + 1 + below(most);
        return below(20) == 0 || to <= m.length() ? to : m.length();
    }

    private void oneCall() {
        int chance = below(100);
        if (chance < 30) {
            fillAndInsert();
        } else if (chance < 62) {
            change();
        } else if (chance < 72) {
            remember();
        } else if (chance < 92) {
            ask();
        } else if (chance < 96) {
            int version = below(3);
            same("keep(" + version + ")", x.keep(version), m.keep(version));
        } else {
            same("undo()", x.undo(), m.undo());
        }
    }

    private void fillAndInsert() {
        int letters = kind == 4 ? 1 : kind == 5 ? 2 : 3;
        int count = kind == 5 ? 1 + below(3) : 1 + below(kind == 0 ? 40 : 6);
        for (int i = 0; i < count; i++) {
            int code = below(12) == 0 ? 10 : 97 + below(letters);
            code = below(200) == 0 ? about(130) : code;
            same("type(" + code + ")", x.type(code), m.type(code));
        }
        int chance = below(10);
        if (chance < 6) {
            int position = about(m.length());
            same("insert(" + position + ")", x.insert(position), m.insert(position));
        } else if (chance < 8) {
            same("replaceAll()", x.replaceAll(), m.replaceAll());
        }
        if (below(3) > 0) {
            same("clearBuffer()", x.clearBuffer(), m.clearBuffer());
        }
    }

    private void change() {
        int from = about(m.length());
        int to = behind(from);
        switch (below(9)) {
            case 0 -> same("delete(" + from + ", " + to + ")", x.delete(from, to), m.delete(from, to));
            case 1 -> same("cut(" + from + ", " + to + ")", x.cut(from, to), m.cut(from, to));
            case 2, 3 -> same("copy(" + from + ", " + to + ")", x.copy(from, to), m.copy(from, to));
            case 4, 5, 6 -> {
                int rope = about(Math.max(0, m.ring() - 1));
                same("paste(" + from + ", " + rope + ")", x.paste(from, rope), m.paste(from, rope));
            }
            case 7 -> {
                int position = about(Math.max(0, m.length() - Math.abs(to - from)));
                same("move(" + from + ", " + to + ", " + position + ")", x.move(from, to, position), m.move(from, to, position));
            }
            default -> rareChange();
        }
    }

    private void rareChange() {
        int chance = below(kind == 1 || kind == 2 || kind == 5 ? 60 : 8);
        if (chance == 0) {
            same("build()", x.build(), m.build());
        } else if (chance == 1) {
            same("pack()", x.pack(), m.pack());
        } else if (chance == 2) {
            int on = about(1);
            same("setBalancing(" + on + ")", x.setBalancing(on), m.setBalancing(on));
        } else if (chance < 5) {
            int size = kind == 2 || kind == 5 ? 2 + below(2) : about(18);
            same("setLeafSize(" + size + ")", x.setLeafSize(size), m.setLeafSize(size));
        } else if (chance == 5) {
            int version = about(2);
            same("goBack(" + version + ")", x.goBack(version), m.goBack(version));
        } else {
            same("replaceAll()", x.replaceAll(), m.replaceAll());
        }
    }

    private void remember() {
        int mark = about(3);
        if (below(2) == 0) {
            int position = about(m.length());
            same("setMark(" + mark + ", " + position + ")", x.setMark(mark, position), m.setMark(mark, position));
        } else {
            same("mark(" + mark + ")", x.mark(mark), m.mark(mark));
        }
        int version = about(2);
        same("difference(" + version + ")", x.difference(version), m.difference(version));
    }

    private void ask() {
        int position = about(m.length());
        int what = about(2);
        int rope = about(3);
        switch (below(12)) {
            case 0 -> same("character(" + position + ")", x.character(position), m.character(position));
            case 1 -> same("way(" + position + ")", x.way(position), m.way(position));
            case 2 -> same("find(" + position + ")", x.find(position), m.find(position));
            case 3 -> same("lineOf(" + position + ")", x.lineOf(position), m.lineOf(position));
            case 4 -> {
                int line = about(m.lines());
                same("lineStart(" + line + ")", x.lineStart(line), m.lineStart(line));
            }
            case 5 -> same("ofRing(" + rope + ", " + what + ")", x.ofRing(rope, what), m.ofRing(rope, what));
            case 6 -> same("ringCharacter(" + rope + ", " + position + ")",
                    x.ringCharacter(rope, position), m.ringCharacter(rope, position));
            case 7 -> {
                int leaf = about(m.leaves());
                same("leaf(" + leaf + ", " + what + ")", x.leaf(leaf, what), m.leaf(leaf, what));
            }
            case 8 -> same("lines()", x.lines(), m.lines());
            case 9 -> same("leaves()", x.leaves(), m.leaves());
            case 10 -> same("isBalanced()", x.isBalanced(), m.isBalanced());
            default -> {
                same("length()", x.length(), m.length());
                same("depth()", x.depth(), m.depth());
                same("builds()", x.builds(), m.builds());
                same("ring()", x.ring(), m.ring());
            }
        }
    }
}
