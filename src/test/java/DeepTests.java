/**
 * Texts that are as deep as can be: their calls use up nodes fast, so that all ropes that are still
 * of use must outlive many collections, and no call may go down them by calling itself.
 */
public final class DeepTests {
    private static final int DEEP_ENOUGH = 260;

    private static final Check CHECK = new Check("DeepTests");

    public static void main(String[] args) {
        deepOnTheLeft();
        deepOnTheRight();
        everythingKeptOutlivesCollections();
        savedStatesOutliveCollections();
        largeLeavesInNodesUsedAgain();
        manyReplacements();
        nodesAreUsedAgainAndAgain();
        rightAfterManyCalls();
        CHECK.end();
    }

    /** Leaves of one and of two characters in turn, which no join puts together. */
    private static Both spine(boolean growsAtEnd) {
        Both both = new Both(CHECK);
        both.setBalancing(0);
        both.setLeafSize(2);
        both.type("bc");
        both.insert(0);
        both.cut(0, 2);
        both.type("a");
        both.insert(0);
        both.copy(0, 1);
        for (int i = 0; both.m.length() + 3 <= 400; i++) {
            both.paste(growsAtEnd ? both.m.length() : 0, 1 - i % 2);
        }
        return both;
    }

    private static void workInTheDeep(Both both) {
        CHECK.holds("a depth of more than " + DEEP_ENOUGH, both.x.depth() > DEEP_ENOUGH);
        for (int position = 0; position <= 400; position += 37) {
            both.askAt(position);
        }
        both.askLeaf(both.m.leaves() - 1, 2);
        both.askLeaf(0, 2);
        both.move(1, 5, 200);
        both.move(390, 397, 3);
        both.copy(100, 103);
        both.delete(100, 140);
        both.cut(7, 8);
        both.paste(300, 0);
        both.askAboutText();
        both.setBalancing(1);
        both.delete(50, 51);
        both.askAboutText();
        both.undo();
        both.build();
        both.pack();
        both.undo();
        both.undo();
        both.askAboutText();
    }

    private static void deepOnTheLeft() {
        CHECK.promise("a text that is deep on the left");
        workInTheDeep(spine(true));
    }

    private static void deepOnTheRight() {
        CHECK.promise("a text that is deep on the right");
        workInTheDeep(spine(false));
    }

    private static void everythingKeptOutlivesCollections() {
        CHECK.promise("ropes outlive collections");
        Both both = spine(true);
        both.keep(0);
        both.move(3, 30, 350);
        both.keep(1);
        both.delete(10, 20);
        both.keep(2);
        both.copy(0, both.m.length());
        both.delete(1, 3);
        both.copy(5, both.m.length());
        both.delete(1, 3);
        both.copy(7, both.m.length() - 3);
        both.delete(1, 3);
        both.copy(9, both.m.length() - 5);
        for (int i = 0; i < 120; i++) {
            both.move(i, i + 2, both.m.length() - 2 - i);
            both.move(both.m.length() - 2 - i, both.m.length() - i, i);
        }
        for (int version = 0; version < 3; version++) {
            both.difference(version);
            both.goBack(version);
            both.askAboutText();
        }
        for (int i = 0; i < 7; i++) {
            both.undo();
        }
        for (int i = 0; i < 4; i++) {
            both.askRingCharacter(i, 11);
        }
        for (int i = 0; i < 60; i++) {
            both.move(i, i + 2, both.m.length() - 2 - i);
            both.undo();
        }
    }

    /** All six saved states, the oldest one with nodes of its own, while one call collects many times. */
    private static void savedStatesOutliveCollections() {
        CHECK.promise("saved states outlive collections");
        Both both = spine(true);
        both.copy(0, 1);
        both.type("a");
        for (int round = 0; round < 5; round++) {
            both.pack();
            both.replaceAll();
            both.setMark(round % 4, 7 * round);
            both.move(100, 110, round);
            both.setLeafSize(2 + round);
            both.replaceAll();
            for (int i = 0; i < 6; i++) {
                both.undo();
            }
            both.move(3, 5, 200 + round);
        }
    }

    private static void largeLeavesInNodesUsedAgain() {
        CHECK.promise("leaves of 16 characters in nodes that are used again");
        Both both = new Both(CHECK);
        both.setLeafSize(16);
        for (int i = 0; i < 10; i++) {
            both.type("ab~a\nc" + (char) ('A' + i) + "adaeafagahaiajakalamanaoapaqara");
            both.insert(both.m.length());
        }
        both.copy(0, 1);
        both.type("a");
        for (int i = 0; i < 12; i++) {
            both.replaceAll();
            both.pack();
            both.move(7 * i, 7 * i + 30, 5);
        }
        for (int position = 0; position <= both.m.length(); position++) {
            both.askAt(position);
        }
    }

    private static void manyReplacements() {
        CHECK.promise("many replacements in one call");
        Both both = spine(true);
        both.askAboutText();
        both.type("a");
        both.replaceAll();
        both.type("b");
        both.clearBuffer();
        both.type("b");
        both.copy(1, 2);
        both.replaceAll();
        both.copy(2, 3);
        both.replaceAll();
        both.clearBuffer();
        both.type("a");
        both.replaceAll();
        both.askAboutText();
        both.undo();
        both.undo();
        both.setBalancing(1);
        both.replaceAll();
        both.askAboutText();
    }

    /** What was reached once is free later on: these calls make and drop far more nodes than there are. */
    private static void nodesAreUsedAgainAndAgain() {
        CHECK.promise("nodes that nothing reaches any more are used again");
        Both both = spine(true);
        both.type("a");
        for (int i = 0; i < 30; i++) {
            both.replaceAll();
            both.undo();
        }
        both.askAboutText();
    }

    private static void rightAfterManyCalls() {
        CHECK.promise("calls far beyond 512");
        Both both = spine(false);
        for (int i = 0; i < 400; i++) {
            int from = (i * 83) % 300;
            both.cut(from, from + 1 + i % 7);
            both.paste((i * 131) % 300, i % 4);
            if (i % 50 == 49) {
                both.keep(i % 3);
            }
        }
        both.goBack(0);
        both.goBack(1);
        both.goBack(2);
    }
}
