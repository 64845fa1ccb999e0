/** Promises 1 to 6: a new object, target, drop, go, spacings, set. */
final class SceneTest {
    private static final Due DUE = new Due("SceneTest");
    private static final int INVALID = -1;
    private static final int NOT_POSSIBLE = -2;
    private static final int LIMIT = -3;
    private static final int NOT_FOUND = -4;

    private SceneTest() {
    }

    public static void main(String[] args) {
        promise1();
        promise2();
        promise2Errors();
        promise3();
        promise4();
        promise5();
        promise6();
        DUE.end();
    }

    private static void due(String call, long got, long want) {
        DUE.same(call, got, want);
    }

    private static void promise1() {
        EchoTurns x = new EchoTurns();
        int[] wanted = {0, 0, 0, 1, 20, NOT_FOUND, NOT_FOUND, NOT_FOUND, 0, 0, 0, 0, 0, 0, 0, 1, 0, 0, 0};
        for (int what = 0; what < wanted.length; what++) {
            due("1: new, count(" + what + ")", x.count(what), wanted[what]);
        }
        due("1: new, fault()", x.fault(), 0);
        due("1: new, undo()", x.undo(), NOT_POSSIBLE);
        due("1: new, restore()", x.restore(), NOT_POSSIBLE);
        DUE.same("1: new, truth()", x.truth(), 1.0);
        EchoTurns other = new EchoTurns();
        x.target(5, 5, 0, false);
        due("1: two objects are apart, count(0)", other.count(0), 0);
    }

    private static void promise2() {
        EchoTurns x = new EchoTurns();
        due("2: target(1, 1, -5, false)", x.target(1, 1, -5, false), 0);
        due("2: target(300, 99, 5, false)", x.target(300, 99, 5, false), 1);
        due("2: target(7, 8, 0, true)", x.target(7, 8, 0, true), 2);
        due("2: targetOf(0, 0)", x.targetOf(0, 0), 1);
        due("2: targetOf(0, 1)", x.targetOf(0, 1), 1);
        due("2: targetOf(0, 2)", x.targetOf(0, 2), 0);
        due("2: targetOf(0, 3)", x.targetOf(0, 3), 0);
        due("2: targetOf(1, 0)", x.targetOf(1, 0), 300);
        due("2: targetOf(1, 1)", x.targetOf(1, 1), 99);
        due("2: targetOf(1, 2)", x.targetOf(1, 2), 10);
        due("2: targetOf(2, 3)", x.targetOf(2, 3), 1);
        due("2: count(18)", x.count(18), 3);
        due("2: same distance, other movement", x.target(7, 8, 1, false), 3);
        due("2: same movement, other distance", x.target(8, 8, 0, true), 4);
        due("2: the sixth", x.target(9, 8, 0, false), 5);
        due("2: history of at most 4", x.count(18), 4);
        due("2: the seventh", x.target(10, 8, 0, false), LIMIT);
        due("2: like another one is told before the limit", x.target(9, 1, 0, true), NOT_POSSIBLE);
        due("2: a range is told before the limit", x.target(301, 1, 0, true), INVALID);
        due("2: none came", x.count(0), 6);
    }

    private static void promise2Errors() {
        EchoTurns x = new EchoTurns();
        int[][] wrong = {
            {0, 5, 0}, {301, 5, 0}, {-1, 5, 0}, {5, 0, 0}, {5, 100, 0}, {5, 5, -6}, {5, 5, 6},
            {Integer.MIN_VALUE, 5, 0}, {Integer.MAX_VALUE, 5, 0}, {5, Integer.MAX_VALUE, 0}, {5, 5, Integer.MIN_VALUE}
        };
        for (int[] one : wrong) {
            due("2: wrong target", x.target(one[0], one[1], one[2], false), INVALID);
        }
        due("2: a wall that moves", x.target(5, 5, 1, true), INVALID);
        due("2: a wall that moves", x.target(5, 5, -5, true), INVALID);
        due("2: no change by errors", x.count(18), 0);
        x.target(5, 5, 0, true);
        due("2: a target where a wall is", x.target(5, 9, 0, false), NOT_POSSIBLE);
        due("2: a wall where a wall is", x.target(5, 5, 0, true), NOT_POSSIBLE);
        due("2: an error changes nothing", x.count(18), 1);
        due("2: an error changes nothing", x.targetOf(0, 1), 5);
    }

    private static void promise3() {
        EchoTurns x = new EchoTurns();
        due("3: drop of none", x.drop(0), INVALID);
        x.target(10, 11, 1, false);
        x.target(20, 22, 0, true);
        x.target(30, 33, -2, false);
        due("3: drop(3)", x.drop(3), INVALID);
        due("3: drop(-1)", x.drop(-1), INVALID);
        due("3: drop(MAX)", x.drop(Integer.MAX_VALUE), INVALID);
        due("3: count(18)", x.count(18), 3);
        due("3: drop(0)", x.drop(0), 2);
        due("3: the next has its number", x.targetOf(0, 0), 20);
        due("3: the next has its number", x.targetOf(0, 1), 22);
        due("3: the next has its number", x.targetOf(0, 3), 1);
        due("3: the last one too", x.targetOf(1, 0), 30);
        due("3: the last one too", x.targetOf(1, 1), 33);
        due("3: the last one too", x.targetOf(1, 2), 3);
        due("3: the last one too", x.targetOf(1, 3), 0);
        due("3: there is no 2", x.targetOf(2, 0), INVALID);
        due("3: a change", x.count(18), 4);
        due("3: drop(1)", x.drop(1), 1);
        due("3: drop(0)", x.drop(0), 0);
        due("3: its place is free", x.target(20, 1, 0, false), 0);
    }

    private static void promise4() {
        EchoTurns x = new EchoTurns();
        due("4: go() of none", x.go(), 0);
        due("4: it is a change", x.count(18), 1);
        x.spacings(10, 11, 12, 0);
        x.target(15, 10, -5, false);
        x.target(16, 20, -5, false);
        x.target(285, 30, 5, false);
        x.target(286, 40, 5, false);
        x.target(100, 50, 0, true);
        x.target(50, 60, 2, false);
        due("4: go()", x.go(), 4);
        due("4: 16 - 15", x.targetOf(0, 0), 1);
        due("4: its strength", x.targetOf(0, 1), 20);
        due("4: its movement", x.targetOf(0, 2), 0);
        due("4: 285 + 15", x.targetOf(1, 0), 300);
        due("4: a wall stays", x.targetOf(2, 0), 100);
        due("4: a wall stays a wall", x.targetOf(2, 3), 1);
        due("4: 50 + 6", x.targetOf(3, 0), 56);
        due("4: go() again", x.go(), 2);
        due("4: the wall is 0 now", x.targetOf(0, 0), 100);
        due("4: 56 + 6", x.targetOf(1, 0), 62);
        x.spacings(10, 0, 0, 0);
        x.go();
        due("4: one turn, once", x.targetOf(1, 0), 64);
        x.set(0, 9);
        x.spacings(10, 10, 10, 10);
        x.go();
        due("4: four turns", x.targetOf(1, 0), 72);
    }

    private static void promise5() {
        EchoTurns x = new EchoTurns();
        due("5: spacings(10, 50, 10, 50)", x.spacings(10, 50, 10, 50), 4);
        due("5: spacing 0", x.count(4), 10);
        due("5: spacing 1", x.count(5), 50);
        due("5: spacing 2", x.count(6), 10);
        due("5: spacing 3", x.count(7), 50);
        due("5: spacings(33, 0, 0, 0)", x.spacings(33, 0, 0, 0), 1);
        due("5: spacing 0", x.count(4), 33);
        due("5: spacing 1", x.count(5), NOT_FOUND);
        due("5: turns", x.count(3), 1);
        due("5: spacings(11, 12, 0, 0)", x.spacings(11, 12, 0, 0), 2);
        due("5: spacings(11, 12, 13, 0)", x.spacings(11, 12, 13, 0), 3);
        int[][] wrong = {
            {0, 0, 0, 0}, {0, 20, 0, 0}, {9, 0, 0, 0}, {51, 0, 0, 0}, {20, 9, 0, 0}, {20, 51, 0, 0}, {20, 20, 9, 0},
            {20, 20, 51, 0}, {20, 20, 20, 9}, {20, 20, 20, 51}, {20, 0, 20, 0}, {20, 0, 0, 20}, {20, 20, 0, 20},
            {20, 0, 20, 20}, {-20, 0, 0, 0}, {20, -1, 0, 0}, {20, 20, 20, Integer.MIN_VALUE}
        };
        for (int[] one : wrong) {
            due("5: wrong spacings", x.spacings(one[0], one[1], one[2], one[3]), INVALID);
        }
        due("5: they stayed", x.count(6), 13);
        due("5: four changes", x.count(18), 4);
        x.undo();
        due("5: no error was a change", x.count(3), 2);
    }

    private static void promise6() {
        EchoTurns x = new EchoTurns();
        due("6: set(0, 9)", x.set(0, 9), 0);
        due("6: set(0, 0)", x.set(0, 0), 9);
        due("6: set(1, 99)", x.set(1, 99), 1);
        due("6: set(1, 1)", x.set(1, 1), 99);
        due("6: set(0, 4)", x.set(EchoTurns.BLIND, 4), 0);
        due("6: set(1, 5)", x.set(EchoTurns.LOUD, 5), 1);
        due("6: BLIND", x.count(14), 4);
        due("6: LOUD", x.count(15), 5);
        int[][] wrong = {{0, -1}, {0, 10}, {1, 0}, {1, 100}, {2, 1}, {-1, 1}, {Integer.MAX_VALUE, 1}, {1, Integer.MIN_VALUE}};
        for (int[] one : wrong) {
            due("6: wrong setting", x.set(one[0], one[1]), INVALID);
        }
        due("6: BLIND stayed", x.count(14), 4);
        due("6: LOUD stayed", x.count(15), 5);
        due("6: undo()", x.undo(), 3);
        due("6: LOUD before", x.count(15), 1);
        due("6: the same value is a change too", x.set(1, 1), 1);
        due("6: the same value is a change too", x.count(18), 4);
    }
}
