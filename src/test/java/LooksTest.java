/** Promises 12 to 20: targetOf, ghost, echo, fits, told, alike, unfold, count, truth. */
final class LooksTest {
    private static final Due DUE = new Due("LooksTest");
    private static final int INVALID = -1;
    private static final int NOT_FOUND = -4;
    private static final int MIN = Integer.MIN_VALUE;
    private static final int MAX = Integer.MAX_VALUE;

    private LooksTest() {
    }

    public static void main(String[] args) {
        promise12();
        promise12Lost();
        promise13();
        promise13AllWalls();
        promise14();
        promise14Together();
        promise15();
        promise16();
        promise16Edges();
        promise16Blind();
        promise17();
        promise18();
        promise19();
        promise19Told();
        promise20();
        looksChangeNothing();
        DUE.end();
    }

    private static void due(String call, long got, long want) {
        DUE.same(call, got, want);
    }

    /** Two walls, their ghost at 70 with the strength 10, and a target that comes nearer; all are told, with 62 phantoms. */
    private static EchoTurns sceneOfFour() {
        EchoTurns x = new EchoTurns();
        x.spacings(12, 18, 0, 0);
        x.target(30, 40, 0, true);
        x.target(50, 50, 0, true);
        x.target(5, 10, -3, false);
        return x;
    }

    private static void promise12() {
        EchoTurns x = sceneOfFour();
        int[][] wanted = {{30, 40, 5, 1, 1, 0, 1}, {50, 50, 5, 1, 1, 0, 1}, {5, 10, 2, 0, 1, 0, 0}};
        for (int target = 0; target < 3; target++) {
            for (int what = 0; what < 7; what++) {
                due("12: targetOf(" + target + ", " + what + ")", x.targetOf(target, what), wanted[target][what]);
            }
        }
        int[][] wrong = {{3, 0}, {-1, 0}, {0, 7}, {0, -1}, {MAX, 0}, {MIN, 0}, {0, MAX}, {0, MIN}, {6, 4}, {3, 6}};
        for (int[] one : wrong) {
            due("12: targetOf(" + one[0] + ", " + one[1] + ")", x.targetOf(one[0], one[1]), INVALID);
        }
        due("12: targetOf without targets", new EchoTurns().targetOf(0, 0), INVALID);
        x.set(1, 11);
        due("12: too faint to be told", x.targetOf(2, 4), 0);
        due("12: a ghost that is too faint is one all the same", x.targetOf(0, 6), 1);
        EchoTurns walls = new EchoTurns();
        walls.target(10, 2, 0, true);
        walls.target(20, 99, 0, true);
        walls.target(30, 40, 0, true);
        walls.target(25, 99, 0, false);
        due("12: ghosts with the strength 0 are none", walls.targetOf(0, 6), 0);
        due("12: its ghosts", walls.targetOf(1, 6), 1);
        due("12: its ghosts", walls.targetOf(2, 6), 1);
        due("12: no wall, no ghost", walls.targetOf(3, 6), 0);
        walls.drop(3);
        walls.target(25, 99, 0, false);
        walls.set(1, 30);
        due("12: 10 is too faint, but told by the one at 30", walls.targetOf(0, 4), 1);
        walls.set(1, 60);
        due("12: both are too faint", walls.targetOf(0, 4), 0);
    }

    private static void promise12Lost() {
        EchoTurns x = new EchoTurns();
        x.spacings(10, 20, 30, 0);
        x.set(0, 4);
        x.target(33, 9, 0, false);
        x.target(38, 9, 5, false);
        x.target(4, 9, 0, false);
        x.target(2, 9, -5, false);
        due("12: lost at 3 and 3, not at 13", x.targetOf(0, 5), 2);
        due("12: lost at 3, not at 8 and 18", x.targetOf(1, 5), 1);
        due("12: not lost at BLIND", x.targetOf(2, 5), 0);
        due("12: below 0 it is at 0", x.targetOf(3, 5), 3);
        due("12: heard in one turn, blind in two", x.targetOf(0, 4), 1);
        due("12: lost in all turns", x.targetOf(3, 4), 0);
        x.set(1, 10);
        due("12: what is too faint is not lost", x.targetOf(3, 5), 0);
        x.set(1, 9);
        due("12: at LOUD it is not too faint", x.targetOf(3, 5), 3);
        x.set(0, 0);
        due("12: nothing is below 0", x.targetOf(3, 5), 0);
    }

    private static void promise13() {
        EchoTurns x = new EchoTurns();
        due("13: ghost(0, 0) without any", x.ghost(0, 0), NOT_FOUND);
        due("13: ghost(0, 5) without any", x.ghost(0, 5), INVALID);
        x.target(300, 99, 0, true);
        x.target(77, 99, 0, false);
        x.target(1, 99, 0, true);
        x.target(150, 10, 0, true);
        x.target(200, 20, 0, true);
        int[][] wanted = {{599, 49, 0, 2}, {450, 4, 0, 3}, {400, 9, 0, 4}, {299, 4, 2, 3}, {399, 9, 2, 4}, {250, 1, 3, 4}};
        due("13: count(2)", x.count(2), 6);
        for (int ghost = 0; ghost < wanted.length; ghost++) {
            for (int what = 0; what < 4; what++) {
                due("13: ghost(" + ghost + ", " + what + ")", x.ghost(ghost, what), wanted[ghost][what]);
            }
            due("13: ghost(" + ghost + ", 4)", x.ghost(ghost, 4), 1);
        }
        due("13: ghost(6, 0)", x.ghost(6, 0), NOT_FOUND);
        due("13: ghost(MAX, 4)", x.ghost(MAX, 4), NOT_FOUND);
        due("13: ghost(-1, 0)", x.ghost(-1, 0), INVALID);
        due("13: ghost(MIN, 0)", x.ghost(MIN, 0), INVALID);
        due("13: ghost(0, 5)", x.ghost(0, 5), INVALID);
        due("13: ghost(0, -1)", x.ghost(0, -1), INVALID);
        due("13: ghost(6, 5)", x.ghost(6, 5), INVALID);
        EchoTurns strengths = new EchoTurns();
        strengths.target(10, 26, 0, true);
        strengths.target(20, 23, 0, true);
        strengths.target(30, 99, 0, true);
        due("13: 598 by 200", strengths.ghost(0, 1), 2);
        due("13: 2574 by 200", strengths.ghost(1, 1), 12);
        due("13: 2277 by 200", strengths.ghost(2, 1), 11);
        x.set(1, 5);
        due("13: at 450, and 10 sounds by the wall at 150 alone", x.ghost(1, 4), 1);
        due("13: at 299, and 19 sounds by the ghost at 599", x.ghost(3, 4), 1);
        x.set(1, 50);
        due("13: at 299, and 19 is not heard", x.ghost(3, 4), 0);
        due("13: a faint ghost is one", x.count(2), 6);
        x.drop(3);
        due("13: the numbers of its walls are less then", x.ghost(1, 3), 3);
        x.drop(3);
        x.target(150, 2, 0, true);
        due("13: 2 times 99 is none", x.count(2), 1);
        due("13: those behind it move up", x.ghost(1, 0), NOT_FOUND);
    }

    private static void promise13AllWalls() {
        EchoTurns x = new EchoTurns();
        for (int i = 0; i < 6; i++) {
            x.target(100 + i * i, 90 + i, 0, true);
        }
        int ghost = 0;
        for (int i = 0; i < 6; i++) {
            for (int j = i + 1; j < 6; j++) {
                due("13: distance of ghost " + ghost, x.ghost(ghost, 0), 100 + 2 * j * j - i * i);
                due("13: strength of ghost " + ghost, x.ghost(ghost, 1), (90 + i) * (90 + j) / 200);
                due("13: lesser of ghost " + ghost, x.ghost(ghost, 2), i);
                due("13: greater of ghost " + ghost, x.ghost(ghost, 3), j);
                ghost++;
            }
        }
        due("13: fifteen", x.count(2), 15);
        due("13: no sixteenth", x.ghost(15, 0), NOT_FOUND);
        due("12: five of them", x.targetOf(5, 6), 5);
        x.set(1, 99);
        due("19: 21 are too faint", x.count(10), 21);
        due("19: 21 are missed", x.count(13), 21);
    }

    private static void promise14() {
        EchoTurns x = sceneOfFour();
        int[][][] wanted = {
            {{2, 5, 50, 1}, {5, 2, 10, 1}, {6, 5, 40, 1}, {10, 5, 10, 1}},
            {{2, 2, 10, 1}, {12, 5, 40, 1}, {14, 5, 50, 1}, {16, 5, 10, 1}}
        };
        for (int turn = 0; turn < 2; turn++) {
            for (int echo = 0; echo < 4; echo++) {
                for (int what = 0; what < 4; what++) {
                    due("14: echo(" + turn + ", " + echo + ", " + what + ")",
                        x.echo(turn, echo, what), wanted[turn][echo][what]);
                }
            }
        }
        due("14: echo(0, 4, 0)", x.echo(0, 4, 0), NOT_FOUND);
        due("14: echo(1, MAX, 3)", x.echo(1, MAX, 3), NOT_FOUND);
        int[][] wrong = {{2, 0, 0}, {-1, 0, 0}, {4, 0, 0}, {0, -1, 0}, {0, 0, 4}, {0, 0, -1}, {MAX, 0, 0}, {0, MIN, 0},
            {0, 9, 4}, {2, 9, 0}};
        for (int[] one : wrong) {
            due("14: echo(" + one[0] + ", " + one[1] + ", " + one[2] + ")", x.echo(one[0], one[1], one[2]), INVALID);
        }
        due("14: echo of an empty scene", new EchoTurns().echo(0, 0, 0), NOT_FOUND);
        x.set(0, 6);
        due("14: a place below BLIND is lost", x.echo(0, 0, 0), 6);
        due("14: two are left", x.echo(0, 2, 0), NOT_FOUND);
        x.set(1, 11);
        due("14: the ghost is too faint", x.echo(0, 1, 0), NOT_FOUND);
        x.set(1, 10);
        due("14: at LOUD it is heard", x.echo(0, 1, 0), 10);
    }

    private static void promise14Together() {
        EchoTurns x = new EchoTurns();
        x.spacings(10, 0, 0, 0);
        x.target(13, 7, 0, false);
        x.target(3, 5, 0, false);
        x.target(23, 2, 1, false);
        x.target(33, 9, 0, true);
        x.target(43, 6, -5, false);
        due("14: by the pitch at one place", x.echo(0, 0, 1), 0);
        due("14: by the pitch at one place", x.echo(0, 1, 1), 5);
        due("14: by the pitch at one place", x.echo(0, 2, 1), 6);
        due("14: strengths together", x.echo(0, 1, 2), 21);
        due("14: three of them", x.echo(0, 1, 3), 3);
        due("14: three echoes", x.echo(0, 3, 0), NOT_FOUND);
        x.set(1, 7);
        due("14: those that are too faint by themselves do not count", x.echo(0, 0, 2), 16);
        due("14: two of them", x.echo(0, 0, 3), 2);
        due("14: the others are gone", x.echo(0, 1, 2), NOT_FOUND);
        EchoTurns walls = new EchoTurns();
        walls.target(20, 99, 0, true);
        walls.target(40, 99, 0, true);
        walls.target(60, 99, 0, false);
        due("14: with a ghost", walls.echo(0, 0, 2), 3 * 99 + 49);
        due("14: with a ghost", walls.echo(0, 0, 3), 4);
        EchoTurns nearing = new EchoTurns();
        nearing.spacings(10, 11, 12, 13);
        nearing.target(7, 1, -4, false);
        nearing.target(6, 2, -4, false);
        due("14: 3 and 2", nearing.echo(1, 1, 0), 3);
        due("14: 7 - 8 is at 0", nearing.echo(2, 0, 0), 0);
        due("14: 6 - 8 is at 0 too", nearing.echo(2, 0, 2), 3);
        due("14: and then", nearing.echo(3, 0, 3), 2);
    }

    private static void promise15() {
        EchoTurns x = sceneOfFour();
        due("15: fits(30, 0, 0)", x.fits(30, 0, 0), 1);
        due("15: fits(30, 0, 1)", x.fits(30, 0, 1), 1);
        due("15: fits(30, -3, 0)", x.fits(30, -3, 0), 0);
        due("15: fits(18, 0, 0)", x.fits(18, 0, 0), 1);
        due("15: fits(18, 0, 1)", x.fits(18, 0, 1), 0);
        due("15: fits(600, 5, 1)", x.fits(600, 5, 1), 0);
        due("15: fits(590, 0, 0)", x.fits(590, 0, 0), 1);
        due("15: fits(1, -5, 0)", x.fits(1, -5, 0), 0);
        due("15: fits(5, -3, 1)", x.fits(5, -3, 1), 1);
        due("15: fits(23, -3, 1)", x.fits(23, -3, 1), 1);
        int[][] wrong = {{0, 0, 0}, {601, 0, 0}, {5, -6, 0}, {5, 6, 0}, {5, 0, -1}, {5, 0, 2}, {MIN, 0, 0}, {MAX, 0, 0},
            {5, MIN, 0}, {5, MAX, 0}, {5, 0, MAX}, {5, 0, 4}};
        for (int[] one : wrong) {
            due("15: fits(" + one[0] + ", " + one[1] + ", " + one[2] + ")", x.fits(one[0], one[1], one[2]), INVALID);
        }
        x.set(0, 6);
        due("15: 5 is below BLIND", x.fits(5, -3, 0), 2);
        due("15: 5 is below BLIND for any pitch", x.fits(5, 4, 0), 2);
        due("15: 6 is not", x.fits(6, 4, 0), 0);
        due("15: 6 is heard", x.fits(6, 0, 0), 1);
        x.spacings(10, 10, 10, 0);
        x.target(2, 9, -5, false);
        x.set(0, 0);
        due("15: 2 - 5 is at 0", x.fits(2, -5, 1), 1);
        due("15: 1 - 5 is at 0 too", x.fits(1, -5, 1), 1);
        due("15: 5 - 5 is 0", x.fits(5, -5, 1), 1);
        due("15: 6 - 5 is 1", x.fits(6, -5, 1), 0);
        due("15: 6 - 10 is at 0", x.fits(6, -5, 2), 1);
        due("15: 600 + 10", x.fits(600, 5, 2), 0);
        x.set(1, 10);
        due("15: too faint", x.fits(2, -5, 1), 0);
    }

    private static void promise16() {
        EchoTurns x = sceneOfFour();
        int[][] wanted = {{5, 2, 1, 2}, {14, 5, 0, 2}, {30, 5, 1, 2}, {34, 5, 0, 2}, {41, 2, 0, 2}, {50, 5, 1, 2},
            {66, 5, 0, 2}, {70, 5, 1, 2}};
        for (int place = 0; place < wanted.length; place++) {
            for (int what = 0; what < 4; what++) {
                due("16: told(" + place + ", " + what + ")", x.told(place, what), wanted[place][what]);
            }
        }
        due("16: the last", x.told(65, 0), 590);
        due("16: behind the last", x.told(66, 0), NOT_FOUND);
        due("16: far behind", x.told(MAX, 3), NOT_FOUND);
        int[][] wrong = {{-1, 0}, {MIN, 0}, {0, 4}, {0, -1}, {0, MAX}, {66, 4}};
        for (int[] one : wrong) {
            due("16: told(" + one[0] + ", " + one[1] + ")", x.told(one[0], one[1]), INVALID);
        }
        EchoTurns y = new EchoTurns();
        due("16: nothing is told", y.told(0, 0), NOT_FOUND);
        y.target(20, 9, 2, false);
        y.target(40, 8, -2, false);
        y.target(60, 1, 0, false);
        y.set(1, 2);
        due("16: the same distance by the pitch", y.told(0, 1), 3);
        due("16: the same distance by the pitch", y.told(1, 0), 20);
        due("16: the same distance by the pitch", y.told(1, 1), 7);
        due("16: 20 with the pitch -2 is none of the scene", y.told(0, 2), 0);
        due("16: 20 with the pitch 2 is", y.told(1, 2), 1);
        due("16: 600 is the last", y.told(59, 0), 600);
        due("16: and none behind it", y.told(60, 0), NOT_FOUND);
        y.target(80, 9, 0, false);
        due("16: true although it is too faint", y.told(7, 0), 60);
        due("16: true although it is too faint", y.told(7, 1), 5);
        due("16: true although it is too faint", y.told(7, 2), 1);
    }

    private static void promise16Edges() {
        EchoTurns x = new EchoTurns();
        x.spacings(10, 0, 0, 0);
        x.target(1, 9, 5, false);
        x.target(1, 8, -5, false);
        int[][] wanted = {{0, 1, 0}, {1, 1, 10}, {2, 11, 0}, {118, 591, 0}, {119, 591, 10}};
        for (int[] one : wanted) {
            due("16: told(" + one[0] + ", 0)", x.told(one[0], 0), one[1]);
            due("16: told(" + one[0] + ", 1)", x.told(one[0], 1), one[2]);
        }
        due("16: told(120, 0)", x.told(120, 0), NOT_FOUND);
        due("14: the least pitch", x.echo(0, 0, 1), 0);
        due("14: its strength", x.echo(0, 0, 2), 8);
        due("14: the greatest pitch", x.echo(0, 1, 1), 10);
        due("14: its strength", x.echo(0, 1, 2), 9);
        due("19: two echoes", x.count(8), 2);
        due("19: told", x.count(11), 120);
        x.set(1, 9);
        due("19: one is too faint", x.count(10), 1);
        due("19: told", x.count(11), 60);
        x.drop(1);
        x.spacings(10, 11, 12, 13);
        due("19: one in each turn", x.count(8), 4);
        x.spacings(10, 0, 0, 0);
        due("19: and one again", x.count(8), 1);
        x.set(1, 10);
        due("19: it is too faint", x.count(10), 1);
        due("19: none is heard", x.count(8), 0);
    }

    private static void promise16Blind() {
        EchoTurns x = new EchoTurns();
        x.spacings(10, 20, 0, 0);
        x.set(0, 5);
        x.target(7, 9, 0, false);
        due("16: 7 fits both", x.told(0, 3), 2);
        due("16: 17 fits the first, and is ruled out by the second", x.told(1, 0), 27);
        due("16: 30 in all", x.count(11), 30);
        x.spacings(10, 13, 0, 0);
        // Of 7, 17, 27 .. those with 7 or less than 5 behind 13; 20, say, is blind in the first, and 20 is 7 in the second.
        due("16: 7", x.told(0, 0), 7);
        due("16: 17 is 4, which is blind", x.told(1, 0), 17);
        due("16: 17 fits one turn", x.told(1, 3), 1);
        due("16: 20 is blind in the first", x.told(2, 0), 20);
        due("16: 20 fits the second", x.told(2, 3), 1);
        due("16: what is blind in both is not told", x.told(3, 0), 27);
        due("16: 33 is 3 and 7", x.told(4, 0), 33);
    }

    private static void promise17() {
        int[][] wanted = {{20, 0, 0, 0, 20}, {12, 18, 0, 0, 36}, {20, 20, 0, 0, 20}, {50, 10, 0, 0, 50}, {10, 50, 0, 0, 50},
            {10, 20, 30, 40, 120}, {47, 49, 50, 43, 4951450}, {43, 47, 49, 50, 4951450}, {48, 49, 47, 50, 2763600},
            {12, 18, 25, 0, 900}, {11, 13, 17, 19, 46189}, {50, 50, 50, 50, 50}, {14, 21, 35, 49, 1470}};
        for (int[] one : wanted) {
            EchoTurns x = new EchoTurns();
            x.spacings(one[0], one[1], one[2], one[3]);
            due("17: alike(0) of " + one[0] + ", " + one[1], x.alike(0), one[4]);
            due("17: alike(1) of " + one[0] + ", " + one[1], x.alike(1), one[4]);
            due("17: alike(2)", x.alike(2), INVALID);
            due("17: alike(-1)", x.alike(-1), INVALID);
        }
    }

    private static void promise18() {
        EchoTurns x = new EchoTurns();
        for (int way = 0; way < 2; way++) {
            x.spacings(20, 0, 0, 0);
            due("18: one turn", x.unfold(19, 0, way), 19);
            due("18: one turn", x.unfold(0, 0, way), 0);
            due("18: second has to be 0", x.unfold(0, 1, way), INVALID);
            due("18: second has to be 0", x.unfold(0, -1, way), INVALID);
            due("18: first is too great", x.unfold(20, 0, way), INVALID);
            x.spacings(12, 18, 10, 0);
            due("18: 14", x.unfold(2, 14, way), 14);
            due("18: 30", x.unfold(6, 12, way), 30);
            due("18: 0", x.unfold(0, 0, way), 0);
            due("18: 35", x.unfold(11, 17, way), 35);
            due("18: 24", x.unfold(0, 6, way), 24);
            due("18: none", x.unfold(1, 0, way), NOT_FOUND);
            due("18: none", x.unfold(11, 0, way), NOT_FOUND);
            due("18: first is too great", x.unfold(12, 0, way), INVALID);
            due("18: second is too great", x.unfold(0, 18, way), INVALID);
            due("18: below 0", x.unfold(-1, 0, way), INVALID);
            due("18: below 0", x.unfold(0, -1, way), INVALID);
            due("18: far out", x.unfold(MAX, MIN, way), INVALID);
            x.spacings(50, 49, 0, 0);
            due("18: 2449", x.unfold(49, 48, way), 2449);
            due("18: 2400", x.unfold(0, 48, way), 2400);
            x.spacings(20, 20, 0, 0);
            due("18: the same", x.unfold(7, 7, way), 7);
            due("18: not the same", x.unfold(7, 8, way), NOT_FOUND);
        }
        due("18: unfold(0, 0, 2)", x.unfold(0, 0, 2), INVALID);
        due("18: unfold(0, 0, -1)", x.unfold(0, 0, -1), INVALID);
        due("18: a way is told before none is found", x.unfold(7, 8, 2), INVALID);
    }

    private static void promise19() {
        EchoTurns x = sceneOfFour();
        x.append('t');
        int[] wanted = {3, 2, 1, 2, 12, 18, NOT_FOUND, NOT_FOUND, 8, 0, 0, 66, 62, 0, 0, 1, 27, 1, 4};
        for (int what = 0; what < wanted.length; what++) {
            due("19: count(" + what + ")", x.count(what), wanted[what]);
        }
        due("19: count(19)", x.count(19), INVALID);
        due("19: count(-1)", x.count(-1), INVALID);
        due("19: count(MAX)", x.count(MAX), INVALID);
        due("19: count(MIN)", x.count(MIN), INVALID);
        x.spacings(10, 20, 30, 40);
        for (int turn = 0; turn < 4; turn++) {
            due("19: spacing " + turn, x.count(4 + turn), 10 + 10 * turn);
        }
        x.set(0, 9);
        x.set(1, 99);
        due("19: BLIND", x.count(14), 9);
        due("19: LOUD", x.count(15), 99);
    }

    private static void promise19Told() {
        EchoTurns x = sceneOfFour();
        x.set(0, 6);
        due("19: 2 and 5 in the turn 0, 2 in the turn 1", x.count(9), 3);
        due("19: five are left", x.count(8), 5);
        due("19: none is too faint", x.count(10), 0);
        due("19: the one lost in both turns", x.count(13), 1);
        x.set(1, 11);
        due("19: the target and the ghost", x.count(10), 2);
        due("19: lost ones that are not too faint", x.count(9), 1);
        due("19: three are left", x.count(8), 3);
        EchoTurns y = new EchoTurns();
        y.spacings(10, 0, 0, 0);
        y.set(0, 1);
        y.target(20, 99, 0, true);
        y.target(30, 99, 0, true);
        y.target(40, 99, 0, true);
        due("19: ghosts at 40, 60 and 50, each lost for itself", y.count(9), 6);
        due("19: no echo", y.count(8), 0);
        due("19: nothing is told", y.count(11), 0);
        due("19: each is missed", y.count(13), 6);
        y.set(0, 0);
        due("19: one echo", y.count(8), 1);
        due("19: 10, 20 .. 600", y.count(11), 60);
        due("19: 20, 30, 40, 50, 60 are true", y.count(12), 55);
        due("19: none is missed", y.count(13), 0);
        y.set(1, 99);
        due("19: three faint ghosts", y.count(10), 3);
        due("19: told where the walls sound", y.count(13), 0);
        due("19: true all the same", y.count(12), 55);
    }

    private static void promise20() {
        EchoTurns x = sceneOfFour();
        DUE.same("20: truth()", x.truth(), 4.0 / 66.0);
        x.spacings(10, 20, 0, 0);
        x.target(20, 98, 0, true);
        x.drop(2);
        // The ghosts are at 70, 40 and 80: 50, 30 and 20 sound in the turn 1 at 10, 10 and 0 as the ghosts do.
        DUE.same("20: walls and ghosts", x.truth(), 6.0 / 60.0);
        x.set(1, 99);
        DUE.same("20: nothing is told", x.truth(), 1.0);
        x.set(1, 98);
        DUE.same("20: faint ones are true", x.truth(), 3.0 / 30.0);
        EchoTurns far = new EchoTurns();
        far.spacings(50, 49, 0, 0);
        far.target(300, 1, 0, false);
        DUE.same("20: all are true", far.truth(), 1.0);
    }

    private static void looksChangeNothing() {
        EchoTurns x = sceneOfFour();
        for (int what = 0; what < 7; what++) {
            x.targetOf(0, what);
            x.ghost(0, what);
            x.echo(0, 0, what);
            x.told(0, what);
            x.count(what + 8);
        }
        x.truth();
        x.ifTurn(33, 0);
        x.bestTurn();
        x.ifWall(200, 50, 1);
        due("looks are no changes", x.count(18), 4);
        due("looks leave the targets", x.count(0), 3);
        due("looks leave the turns", x.count(3), 2);
        due("looks leave what is told", x.count(11), 66);
    }
}
