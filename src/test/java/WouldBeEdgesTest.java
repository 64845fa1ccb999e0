/** The sentences of the promises 21 to 23, each at its edges: ifTurn, bestTurn, ifWall. */
final class WouldBeEdgesTest {
    private static final Edges E = new Edges("WouldBeEdgesTest");
    private static final int[] FAR_OUT = {Edges.MIN, Edges.MIN + 20, -20, -1, 1000, Edges.MAX - 1, Edges.MAX};
    private static final String[] SCENES = {"t300*9;10", "w20*99,w30*99,t7*9-3;17/29", "t9*9-5,t9*9+5,t100*1;50/49/48",
        "w5*40,w9*50,w14*60,w22*70,t41*9+2,t63*8-2;12", "t39*9,t40*9;10/20/40",
        "t3*9+3;10", "t39*20-5,t49*20-3,t59*20-1,t69*20+1,t79*20+3,t89*20+5;10"};

    private WouldBeEdgesTest() {
    }

    public static void main(String[] args) {
        ifTurnSpacing();
        ifTurnReturns();
        ifTurnLimit();
        bestTurnReturns();
        bestTurnOfSeveral();
        bestTurnAsIfTurn();
        bestTurnBehindOthers();
        bestTurnLimit();
        ifWallRanges();
        ifWallReturns();
        ifWallErrors();
        E.end();
    }

    private static void ifTurnSpacing() {
        E.of("Promise 21", "Tells what one more turn would bring.");
        EchoTurns x = Edges.scene("t300*9;10");
        E.same("ifTurn(20, 0)", x.ifTurn(20, 0), 30);
        E.same("it does not come", x.count(11), 60);
        E.of("Promise 21", "- `spacing`: 10 to 50: its spacing");
        E.same("ifTurn(9, 0)", x.ifTurn(9, 0), Edges.INVALID);
        E.same("ifTurn(10, 0)", x.ifTurn(10, 0), 60);
        E.same("ifTurn(50, 0)", x.ifTurn(50, 0), 12);
        E.same("ifTurn(51, 0)", x.ifTurn(51, 0), Edges.INVALID);
        E.same("ifTurn(0, 0), which is no turn", x.ifTurn(0, 0), Edges.INVALID);
        for (int spacing : FAR_OUT) {
            E.same("ifTurn(" + spacing + ", 0)", x.ifTurn(spacing, 0), Edges.INVALID);
        }
        E.of("Promise 21", "Returns the number; INVALID_ARGUMENT;");
        E.same("ifTurn(20, -1)", x.ifTurn(20, -1), Edges.INVALID);
        E.same("ifTurn(20, 3)", x.ifTurn(20, 3), Edges.INVALID);
        for (int what : FAR_OUT) {
            E.same("ifTurn(20, " + what + ")", x.ifTurn(20, what), Edges.INVALID);
        }
        E.same("ifTurn(20, 0)", x.ifTurn(20, 0), 30);
        E.same("ifTurn(20, 2)", x.ifTurn(20, 2), 0);
    }

    private static EchoTurns withOneMore(String scene, int spacing, int blind, int loud) {
        String joined = scene.indexOf(';') < 0 ? ";" : "/";
        return Edges.scene(scene + joined + spacing, blind, loud);
    }

    private static void ifTurnReturns() {
        E.of("Promise 21",
            "- `what`: 0: how many distances would be told; 1: how many phantoms; 2: how many targets and ghosts would be missed");
        for (String scene : SCENES) {
            for (int blind = 0; blind <= 9; blind += 3) {
                for (int spacing = 10; spacing <= 50; spacing += 8) {
                    EchoTurns x = Edges.scene(scene, blind, 1 + blind);
                    EchoTurns then = withOneMore(scene, spacing, blind, 1 + blind);
                    for (int what = 0; what < 3; what++) {
                        E.same("ifTurn(" + spacing + ", " + what + ") of " + scene + ", BLIND " + blind,
                            x.ifTurn(spacing, what), then.count(11 + what));
                    }
                }
            }
        }
        EchoTurns none = new EchoTurns();
        for (int what = 0; what < 3; what++) {
            E.same("ifTurn(10, " + what + ") of none", none.ifTurn(10, what), 0);
        }
        E.same("the turns stay", none.count(3), 1);
        EchoTurns lost = Edges.scene("t300*9;10", 1, 1);
        E.same("lost in both", lost.ifTurn(50, 2), 1);
        E.same("lost in one", lost.ifTurn(49, 2), 0);
        E.same("lost in one: told", lost.ifTurn(49, 0), 1);
        E.same("lost in one: phantoms", lost.ifTurn(49, 1), 0);
        E.same("moving: 3 is below 0 in the turn 1, and blind; 23 is at 18", Edges.scene("t3*9-5;20", 1, 1).ifTurn(20, 0), 1);
        E.same("moving: 300 is at 315 in the turn 3", Edges.scene("t300*9+5;20/20/20").ifTurn(50, 0), 6);
    }

    private static void ifTurnLimit() {
        E.of("Promise 21", " LIMIT_REACHED if there are 4 turns.");
        EchoTurns three = Edges.scene("t5*5;10/20/30");
        E.same("ifTurn(10, 0) with three", three.ifTurn(10, 0), 10);
        EchoTurns four = Edges.scene("t5*5;10/20/30/40");
        for (int what = 0; what < 3; what++) {
            E.same("ifTurn(10, " + what + ") with four", four.ifTurn(10, what), Edges.LIMIT);
        }
        E.same("ifTurn(51, 0) with four", four.ifTurn(51, 0), Edges.INVALID);
        E.same("ifTurn(50, 3) with four", four.ifTurn(50, 3), Edges.INVALID);
        four.spacings(10, 20, 30, 0);
        E.same("ifTurn(10, 0) with three again", four.ifTurn(10, 0), 10);
    }

    private static void bestTurnReturns() {
        E.of("Promise 22", "Finds the best spacing for one more turn.");
        E.same("300 with 49", Edges.scene("t300*9;49").bestTurn(), 10);
        E.same("30 with 49", Edges.scene("t30*9;49").bestTurn(), 12);
        E.of("Promise 22", "Returns the spacing with which the phantoms and the missed ones would be fewest together,");
        // With 11 those that look alike are 550 apart, which leaves 300 alone, but 1 and 551; with 13 they are 650 apart.
        E.same("300 with 50", Edges.scene("t300*9;50").bestTurn(), 11);
        E.same("1 with 50", Edges.scene("t1*9;50").bestTurn(), 13);
        EchoTurns last = Edges.scene("t140*9,t262*9,t290*9;17");
        E.same("the longest spacing", last.bestTurn(), 50);
        E.same("1 as a distance, and 0 as none", Edges.scene("t300*9+5;49/50", 1, 1).bestTurn(), 10);
        E.same("0 with the pitch -5 is none either", Edges.scene("t265*9-5;49").bestTurn(), 10);
        // With 10 it is lost in both turns, which is 1 missed one; with 11 it alone is told.
        E.same("a missed one is worse than none", Edges.scene("t225*9+5;45", 1, 1).bestTurn(), 11);
        // With 10 it stays lost, which is 1 missed one; no spacing leaves less.
        EchoTurns lost = Edges.scene("t300*9;10", 9, 1);
        E.same("a missed one counts as a phantom does", lost.bestTurn(), 10);
    }

    private static void bestTurnOfSeveral() {
        E.of("Promise 22", " of several the least;");
        E.same("of none: all are alike", new EchoTurns().bestTurn(), 10);
        E.same("too faint: all are alike", Edges.scene("t5*5", 0, 6).bestTurn(), 10);
        E.same("lost in all: all are alike", Edges.scene("t5*5", 9, 1).bestTurn(), 10);
        E.same("no phantom there is: all are alike", Edges.scene("t300*9;50/49").bestTurn(), 10);
        E.same("the first that leaves none", Edges.scene("t5*9;20").bestTurn(), 31);
    }

    private static void bestTurnAsIfTurn() {
        E.of("Promise 22", "Returns the spacing with which the phantoms and the missed ones would be fewest together,");
        for (String scene : SCENES) {
            for (int blind = 0; blind <= 9; blind += 3) {
                EchoTurns x = Edges.scene(scene, blind, 1 + blind);
                int best = 0;
                int fewest = Edges.MAX;
                for (int spacing = 10; spacing <= 50; spacing++) {
                    EchoTurns then = withOneMore(scene, spacing, blind, 1 + blind);
                    int wrong = then.count(12) + then.count(13);
                    best = wrong < fewest ? spacing : best;
                    fewest = Math.min(wrong, fewest);
                }
                E.same("bestTurn() of " + scene + ", BLIND " + blind, x.bestTurn(), best);
                E.same("bestTurn() again", x.bestTurn(), best);
            }
        }
    }

    private static void bestTurnBehindOthers() {
        E.of("Promise 22", "Returns the spacing with which the phantoms and the missed ones would be fewest together,");
        EchoTurns fewer = Edges.scene("t225*9+5,t7*9;45", 1, 1);
        E.same("of two", fewer.bestTurn(), 31);
        fewer.drop(1);
        E.same("of the one that is left", fewer.bestTurn(), 11);
        EchoTurns turns = Edges.scene("t7*9;45/44/43/42", 1, 1);
        E.same("in four turns", turns.count(8), 4);
        Edges.append(turns, "t225*9+5;45");
        turns.load();
        E.same("in one turn where there were four", turns.bestTurn(), 11);
        EchoTurns x = new EchoTurns();
        String[] scenes = {"t10*9-5,t20*9-3;20", "t20*9-3;20", "t300*9;49", "t30*9;49", "t10*9-5;10", "t300*9+5;49/50", "t5*9;20/30/40",
            "t1*9;50"};
        for (String scene : scenes) {
            Edges.append(x, scene);
            x.load();
            E.same("behind other scenes: " + scene, x.bestTurn(), Edges.scene(scene).bestTurn());
        }
    }

    private static void bestTurnLimit() {
        E.of("Promise 22", " LIMIT_REACHED if there are 4 turns.");
        E.same("with four", Edges.scene("t5*5;10/20/30/40").bestTurn(), Edges.LIMIT);
        E.same("with three", Edges.scene("t5*5;47/20/30").bestTurn(), 10);
        EchoTurns none = new EchoTurns();
        none.spacings(10, 20, 30, 40);
        E.same("with four of none", none.bestTurn(), Edges.LIMIT);
        none.spacings(10, 20, 30, 0);
        E.same("with three of none", none.bestTurn(), 10);
    }

    private static void ifWallRanges() {
        E.of("Promise 23", "Tells what a wall would bring.");
        EchoTurns x = Edges.scene("w10*99");
        E.same("ifWall(20, 99, 0)", x.ifWall(20, 99, 0), 1);
        E.same("it does not come", x.count(2), 0);
        E.of("Promise 23", "- `distance`: 1 to 300");
        int[][] distances = {{Edges.MIN, -1}, {-1, -1}, {0, -1}, {1, 30}, {300, 30}, {301, -1}, {Edges.MAX, -1}};
        for (int[] one : distances) {
            E.same("ifWall(" + one[0] + ", 5, 1)", new EchoTurns().ifWall(one[0], 5, 1), one[1]);
        }
        E.of("Promise 23", "- `strength`: 1 to 99");
        int[][] strengths = {{Edges.MIN, -1}, {-1, -1}, {0, -1}, {1, 30}, {99, 30}, {100, -1}, {Edges.MAX, -1}};
        for (int[] one : strengths) {
            E.same("ifWall(5, " + one[0] + ", 1)", new EchoTurns().ifWall(5, one[0], 1), one[1]);
        }
        E.of("Promise 23", "- `what`: 0: how many ghosts there would be; 1: how many distances would be told");
        int[][] whats = {{Edges.MIN, -1}, {-1, -1}, {0, 0}, {1, 30}, {2, -1}, {Edges.MAX, -1}};
        for (int[] one : whats) {
            E.same("ifWall(5, 5, " + one[0] + ")", new EchoTurns().ifWall(5, 5, one[0]), one[1]);
        }
    }

    private static void ifWallReturns() {
        E.of("Promise 23", "- `what`: 0: how many ghosts there would be; 1: how many distances would be told");
        String[] scenes = {"w10*99,t9*9-5", "w300*3,w1*99;20/30", "w20*50,w40*50,w60*50,t7*7+5;17/19/23/50", "t8*8,t9*9;10/11"};
        for (String scene : scenes) {
            for (int blind = 0; blind <= 8; blind += 4) {
                for (int distance : new int[] {2, 11, 30, 80, 299}) {
                    for (int strength = 1; strength <= 99; strength += 14) {
                        EchoTurns x = Edges.scene(scene, blind, 1 + blind);
                        EchoTurns then = Edges.scene(scene, blind, 1 + blind);
                        E.same("the wall comes", then.target(distance, strength, 0, true), x.count(0));
                        String call = "ifWall(" + distance + ", " + strength + ", ..) of " + scene + ", BLIND " + blind;
                        E.same(call + ": ghosts", x.ifWall(distance, strength, 0), then.count(2));
                        E.same(call + ": told", x.ifWall(distance, strength, 1), then.count(11));
                    }
                }
            }
        }
        EchoTurns five = Edges.scene("w1*20,w2*20,w3*20,w4*20,w5*20");
        E.same("a sixth wall: ghosts", five.ifWall(6, 20, 0), 15);
        E.same("a sixth wall that is too weak: ghosts", five.ifWall(6, 9, 0), 10);
        E.same("a sixth wall: told", five.ifWall(6, 20, 1), 11 * 30);
        E.same("count(0) stays", five.count(0), 5);
    }

    private static void ifWallErrors() {
        E.of("Promise 23", "Returns the number; INVALID_ARGUMENT; NOT_POSSIBLE, LIMIT_REACHED as for target().");
        EchoTurns x = Edges.scene("w5*5,t6*6,t7*7+1,t8*8-1,t9*9");
        E.same("like a wall", x.ifWall(5, 9, 0), Edges.NOT_POSSIBLE);
        E.same("like a target", x.ifWall(6, 9, 1), Edges.NOT_POSSIBLE);
        E.same("where one moves", x.ifWall(7, 9, 0), 0);
        E.same("where one moves", x.ifWall(8, 9, 0), 0);
        x.target(10, 9, 0, false);
        E.same("where there are six", x.ifWall(11, 9, 0), Edges.LIMIT);
        E.same("where there are six, told", x.ifWall(300, 99, 1), Edges.LIMIT);
        E.same("like a wall where there are six", x.ifWall(5, 9, 0), Edges.NOT_POSSIBLE);
        E.same("distance 0 where there are six", x.ifWall(0, 9, 0), Edges.INVALID);
        E.same("strength 0 like a wall", x.ifWall(5, 0, 0), Edges.INVALID);
        x.drop(0);
        E.same("where there are five again", x.ifWall(5, 9, 0), 0);
    }
}
