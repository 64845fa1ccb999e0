/** Promises 21 to 23: ifTurn, bestTurn, ifWall. */
final class WouldBeTest {
    private static final Due DUE = new Due("WouldBeTest");
    private static final int INVALID = -1;
    private static final int NOT_POSSIBLE = -2;
    private static final int LIMIT = -3;
    private static final int MIN = Integer.MIN_VALUE;
    private static final int MAX = Integer.MAX_VALUE;

    private WouldBeTest() {
    }

    public static void main(String[] args) {
        promise21();
        promise21Blind();
        promise21Errors();
        promise22();
        promise22AsIfTurn();
        promise23();
        promise23Errors();
        DUE.end();
    }

    private static void due(String call, long got, long want) {
        DUE.same(call, got, want);
    }

    private static EchoTurns sceneOfFour() {
        EchoTurns x = new EchoTurns();
        x.spacings(12, 18, 0, 0);
        x.target(30, 40, 0, true);
        x.target(50, 50, 0, true);
        x.target(5, 10, -3, false);
        return x;
    }

    private static void promise21() {
        EchoTurns x = sceneOfFour();
        // 50, 230, 30, 570, 70, 250, 430, and 5 with the pitch -3, which is at 0 in the turn 2.
        due("21: ifTurn(50, 0)", x.ifTurn(50, 0), 8);
        due("21: ifTurn(50, 1)", x.ifTurn(50, 1), 4);
        due("21: ifTurn(50, 2)", x.ifTurn(50, 2), 0);
        due("21: nothing is changed", x.count(3), 2);
        due("21: nothing is changed", x.count(18), 4);
        due("21: nothing is changed", x.count(11), 66);
        x.spacings(12, 18, 50, 0);
        due("21: so it is", x.count(11), 8);
        due("21: so it is", x.count(12), 4);
        due("21: the fourth", x.ifTurn(49, 2), 0);
        EchoTurns none = new EchoTurns();
        due("21: nothing is told of none", none.ifTurn(10, 0), 0);
        due("21: nothing is told of none", none.ifTurn(50, 1), 0);
        due("21: nothing is missed of none", none.ifTurn(50, 2), 0);
    }

    private static void promise21Blind() {
        EchoTurns x = new EchoTurns();
        x.set(0, 9);
        x.target(25, 5, 0, false);
        due("21: lost in the turn there is", x.count(11), 0);
        due("21: lost in both", x.ifTurn(10, 0), 0);
        due("21: lost in both", x.ifTurn(10, 2), 1);
        due("21: 25 is heard at 11", x.ifTurn(14, 0), 17);
        due("21: 25 is heard at 11", x.ifTurn(14, 1), 16);
        due("21: 25 is heard at 11", x.ifTurn(14, 2), 0);
        x.set(1, 6);
        due("21: too faint", x.ifTurn(14, 2), 1);
        due("21: too faint", x.ifTurn(14, 0), 0);
    }

    private static void promise21Errors() {
        EchoTurns x = sceneOfFour();
        int[][] wrong = {{9, 0}, {51, 0}, {0, 0}, {20, 3}, {20, -1}, {MIN, 0}, {MAX, 0}, {20, MAX}, {20, MIN}};
        for (int[] one : wrong) {
            due("21: ifTurn(" + one[0] + ", " + one[1] + ")", x.ifTurn(one[0], one[1]), INVALID);
        }
        x.spacings(10, 20, 30, 40);
        due("21: no fifth turn", x.ifTurn(10, 0), LIMIT);
        due("21: a range is told before the limit", x.ifTurn(9, 0), INVALID);
        due("21: a range is told before the limit", x.ifTurn(10, 3), INVALID);
    }

    private static void promise22() {
        EchoTurns x = new EchoTurns();
        due("22: of none", x.bestTurn(), 10);
        x.target(5, 9, 0, false);
        // 5 and 585 look alike with 20 and 29; 20 and 31 look alike behind 620 only.
        due("22: the first that leaves no phantom", x.bestTurn(), 31);
        x.drop(0);
        x.target(20, 9, 0, false);
        // 20 and 600 look alike with 20 and 29.
        due("22: 600 is told, too", x.bestTurn(), 31);
        x.undo();
        x.undo();
        x.set(0, 9);
        due("22: lost with all of them", x.bestTurn(), 10);
        x.set(0, 0);
        x.set(1, 10);
        due("22: too faint with all of them", x.bestTurn(), 10);
        x.undo();
        x.spacings(31, 20, 0, 0);
        due("22: no phantom is left", x.bestTurn(), 10);
        x.spacings(10, 20, 30, 0);
        due("22: 60 and 11 are enough", x.bestTurn(), 11);
        x.spacings(10, 20, 30, 40);
        due("22: no fifth turn", x.bestTurn(), LIMIT);
        due("22: nothing is changed", x.count(3), 4);
        x.spacings(20, 0, 0, 0);
        x.set(1, 1);
        x.target(300, 9, -5, false);
        int before = x.count(18);
        x.bestTurn();
        due("22: nothing is changed", x.count(3), 1);
        due("22: nothing is changed", x.count(18), before);
    }

    private static void promise22AsIfTurn() {
        EchoTurns longest = new EchoTurns();
        longest.spacings(17, 0, 0, 0);
        longest.target(262, 9, 0, false);
        longest.target(290, 9, 0, false);
        longest.target(140, 9, 0, false);
        bestAsIfTurn("longest", longest);
        longest.set(0, 0);
        due("22: the longest is the best", longest.bestTurn(), 50);
        bestAsIfTurn("four", sceneOfFour());
        EchoTurns lost = new EchoTurns();
        lost.target(25, 9, 0, false);
        lost.target(50, 9, 5, false);
        lost.target(61, 9, -5, false);
        lost.target(103, 9, 0, false);
        bestAsIfTurn("lost", lost);
        bestAsIfTurn("walls", walls(47, 0, 0));
        bestAsIfTurn("walls with three turns", walls(30, 12, 50));
        bestAsIfTurn("walls with three long turns", walls(50, 49, 48));
        EchoTurns farther = new EchoTurns();
        farther.spacings(50, 0, 0, 0);
        farther.target(100, 9, 0, false);
        farther.target(249, 9, 0, true);
        farther.target(251, 99, 0, true);
        bestAsIfTurn("farther", farther);
    }

    private static EchoTurns walls(int first, int second, int third) {
        EchoTurns x = new EchoTurns();
        x.spacings(first, second, third, 0);
        x.target(20, 99, 0, true);
        x.target(30, 99, 0, true);
        x.target(40, 99, 0, true);
        x.target(93, 99, 1, false);
        x.target(299, 1, -3, false);
        x.target(280, 99, 5, false);
        return x;
    }

    /** Some 340 calls: an object is used for 512 at most. */
    private static void bestAsIfTurn(String name, EchoTurns x) {
        for (int blind = 0; blind < 10; blind += 3) {
            x.set(0, blind);
            int best = 0;
            int fewest = MAX;
            for (int spacing = 10; spacing <= 50; spacing++) {
                int wrong = x.ifTurn(spacing, 1) + x.ifTurn(spacing, 2);
                best = wrong < fewest ? spacing : best;
                fewest = Math.min(wrong, fewest);
            }
            due("22: " + name + " with BLIND " + blind, x.bestTurn(), best);
        }
    }

    private static void promise23() {
        EchoTurns x = new EchoTurns();
        due("23: one wall, no ghost", x.ifWall(50, 50, 0), 0);
        due("23: told alone", x.ifWall(50, 50, 1), 30);
        x.target(30, 40, 0, true);
        due("23: 40 times 50", x.ifWall(50, 50, 0), 1);
        due("23: 40 times 5", x.ifWall(50, 5, 0), 1);
        due("23: 40 times 4 is none", x.ifWall(50, 4, 0), 0);
        due("23: 10 alone", x.ifWall(50, 50, 1), 30);
        due("23: 10, 5 and the ghost at 0", x.ifWall(45, 50, 1), 90);
        due("23: 10 and 5", x.ifWall(45, 4, 1), 60);
        due("23: the nearest", x.ifWall(1, 1, 1), 60);
        due("23: the farthest: 10, 0 and 570 at 10", x.ifWall(300, 99, 1), 60);
        x.set(1, 50);
        due("23: the wall alone is heard", x.ifWall(45, 50, 1), 30);
        due("23: faint ghosts are ghosts", x.ifWall(45, 50, 0), 1);
        due("23: nothing is changed", x.count(0), 1);
        due("23: nothing is changed", x.count(18), 2);
        x.target(60, 50, 0, true);
        due("23: with those that there are", x.ifWall(100, 50, 0), 3);
        x.target(100, 5, 3, false);
        due("23: where one moves", x.ifWall(100, 50, 0), 3);
    }

    private static void promise23Errors() {
        EchoTurns x = new EchoTurns();
        int[][] wrong = {{0, 5, 0}, {301, 5, 0}, {5, 0, 0}, {5, 100, 0}, {5, 5, 2}, {5, 5, -1}, {MIN, 5, 0}, {MAX, 5, 0},
            {5, MAX, 0}, {5, MIN, 0}, {5, 5, MAX}};
        for (int[] one : wrong) {
            due("23: ifWall(" + one[0] + ", " + one[1] + ", " + one[2] + ")", x.ifWall(one[0], one[1], one[2]), INVALID);
        }
        x.target(5, 5, 0, false);
        x.target(6, 5, 0, true);
        due("23: where a target is", x.ifWall(5, 9, 0), NOT_POSSIBLE);
        due("23: where a wall is", x.ifWall(6, 9, 1), NOT_POSSIBLE);
        due("23: a range is told before that", x.ifWall(6, 9, 2), INVALID);
        for (int i = 0; i < 4; i++) {
            x.target(10 + i, 5, 1, false);
        }
        due("23: no seventh", x.ifWall(7, 9, 0), LIMIT);
        due("23: not possible is told before the limit", x.ifWall(5, 9, 0), NOT_POSSIBLE);
        due("23: a range is told before the limit", x.ifWall(7, 100, 0), INVALID);
        due("23: a range is told before the limit", x.ifWall(7, 9, -1), INVALID);
    }
}
