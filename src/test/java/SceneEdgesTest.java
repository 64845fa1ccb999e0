/** The sentences of the promises 1 to 6, each at its edges: a new object, target, drop, go, spacings, set. */
final class SceneEdgesTest {
    private static final Edges E = new Edges("SceneEdgesTest");

    private SceneEdgesTest() {
    }

    public static void main(String[] args) {
        newObject();
        targetComes();
        targetRanges();
        targetTwins();
        targetLimit();
        dropGoes();
        dropWrong();
        goMoves();
        goThoseThatGo();
        goReturns();
        spacingsRanges();
        spacingsReturns();
        spacingsWithGaps();
        setRanges();
        setReturns();
        E.end();
    }

    private static void newObject() {
        E.of("Promise 1", "Creates an empty scene with the spacing 20.");
        EchoTurns x = new EchoTurns();
        int[] wanted = {0, 0, 0, 1, 20, -4, -4, -4, 0, 0, 0, 0, 0, 0, 0, 1, 0, 0, 0};
        for (int what = 0; what < wanted.length; what++) {
            E.same("count(" + what + ")", x.count(what), wanted[what]);
        }
        E.sameDouble("truth()", x.truth(), 1.0);
        E.same("fault()", x.fault(), 0);
        E.same("sign(0)", x.sign(0), Edges.NOT_FOUND);
        E.same("told(0, 0)", x.told(0, 0), Edges.NOT_FOUND);
        E.same("echo(0, 0, 0)", x.echo(0, 0, 0), Edges.NOT_FOUND);
        E.same("ghost(0, 0)", x.ghost(0, 0), Edges.NOT_FOUND);
        E.same("alike(0)", x.alike(0), 20);
        E.same("alike(1)", x.alike(1), 20);
        E.same("unfold(19, 0, 0)", x.unfold(19, 0, 0), 19);
        E.same("undo()", x.undo(), Edges.NOT_POSSIBLE);
        E.same("restore()", x.restore(), Edges.NOT_POSSIBLE);
        E.same("load()", x.load(), Edges.NOT_POSSIBLE);
        E.same("clear()", x.clear(), 0);
        E.same("go()", x.go(), 0);
        x.target(5, 5, 0, true);
        x.spacings(30, 0, 0, 0);
        E.same("a second object, count(0)", new EchoTurns().count(0), 0);
        E.same("a second object, count(4)", new EchoTurns().count(4), 20);
    }

    private static void targetComes() {
        E.of("Promise 2", "A target comes.");
        EchoTurns x = new EchoTurns();
        E.same("count(0) before", x.count(0), 0);
        E.same("targetOf(0, 0) before", x.targetOf(0, 0), Edges.INVALID);
        E.of("Promise 2", "Returns its number; INVALID_ARGUMENT;");
        for (int number = 0; number < 6; number++) {
            E.same("target " + number, x.target(10 + number, 20 + number, number - 2, false), number);
            E.same("count(0)", x.count(0), number + 1);
            E.same("its distance", x.targetOf(number, 0), 10 + number);
            E.same("its strength", x.targetOf(number, 1), 20 + number);
            E.same("its movement", x.targetOf(number, 2), 3 + number);
            E.same("it is no wall", x.targetOf(number, 3), 0);
        }
        E.of("Promise 2", "- `wall`: whether it is a wall");
        EchoTurns walls = new EchoTurns();
        walls.target(10, 9, 0, true);
        walls.target(20, 9, 0, false);
        E.same("a wall", walls.targetOf(0, 3), 1);
        E.same("no wall", walls.targetOf(1, 3), 0);
        E.same("walls", walls.count(1), 1);
    }

    private static void targetRanges() {
        E.of("Promise 2", "- `distance`: 1 to 300");
        int[][] distances = {{Edges.MIN, -1}, {-1, -1}, {0, -1}, {1, 0}, {300, 0}, {301, -1}, {Edges.MAX, -1}};
        for (int[] one : distances) {
            E.same("distance " + one[0], new EchoTurns().target(one[0], 5, 0, false), one[1]);
            E.same("distance " + one[0] + " of a wall", new EchoTurns().target(one[0], 5, 0, true), one[1]);
        }
        E.of("Promise 2", "- `strength`: 1 to 99");
        int[][] strengths = {{Edges.MIN, -1}, {-1, -1}, {0, -1}, {1, 0}, {99, 0}, {100, -1}, {Edges.MAX, -1}};
        for (int[] one : strengths) {
            E.same("strength " + one[0], new EchoTurns().target(5, one[0], 0, false), one[1]);
            E.same("strength " + one[0] + " of a wall", new EchoTurns().target(5, one[0], 0, true), one[1]);
        }
        E.of("Promise 2", "- `movement`: -5 to 5; 0 for a wall");
        int[][] movements = {{Edges.MIN, -1}, {-6, -1}, {-5, 0}, {-1, 0}, {0, 0}, {1, 0}, {5, 0}, {6, -1}, {Edges.MAX, -1}};
        for (int[] one : movements) {
            E.same("movement " + one[0], new EchoTurns().target(5, 5, one[0], false), one[1]);
            E.same("movement " + one[0] + " of a wall", new EchoTurns().target(5, 5, one[0], true), one[0] == 0 ? 0 : -1);
        }
    }

    private static void targetTwins() {
        E.of("Promise 2", " NOT_POSSIBLE if there is one with the same distance and movement;");
        EchoTurns x = Edges.scene("t1*1-5,t300*99+5,w7*7,t8*8");
        E.same("the first", x.target(1, 99, -5, false), Edges.NOT_POSSIBLE);
        E.same("the second", x.target(300, 1, 5, false), Edges.NOT_POSSIBLE);
        E.same("a wall", x.target(7, 7, 0, true), Edges.NOT_POSSIBLE);
        E.same("a target like a wall", x.target(7, 7, 0, false), Edges.NOT_POSSIBLE);
        E.same("a wall like a target", x.target(8, 1, 0, true), Edges.NOT_POSSIBLE);
        E.same("count(0)", x.count(0), 4);
        E.same("the same distance", x.target(1, 1, 5, false), 4);
        E.same("the same movement", x.target(299, 99, 5, false), 5);
        EchoTurns ghost = Edges.scene("w10*99,w20*99");
        E.same("like a ghost it may be", ghost.target(30, 9, 0, false), 2);
        E.same("so may a wall", ghost.ifWall(30, 9, 0), Edges.NOT_POSSIBLE);
        EchoTurns moved = Edges.scene("t10*9+1");
        moved.go();
        E.same("where it was before go()", moved.target(10, 9, 1, false), 1);
        E.same("where it is behind go()", moved.target(11, 9, 1, false), Edges.NOT_POSSIBLE);
    }

    private static void targetLimit() {
        E.of("Promise 2", " LIMIT_REACHED if there are 6.");
        EchoTurns five = Edges.scene("w1*1,w2*1,t3*1,t4*1,t5*1");
        E.same("behind five", five.target(6, 1, 0, false), 5);
        E.same("behind six", five.target(7, 1, 0, false), Edges.LIMIT);
        E.same("behind six again", five.target(7, 1, -5, false), Edges.LIMIT);
        E.same("count(0)", five.count(0), 6);
        E.same("count(18)", five.count(18), 2);
        five.undo();
        E.same("behind five again", five.target(7, 1, 0, true), 5);
    }

    private static void dropGoes() {
        E.of("Promise 3", "A target goes.");
        EchoTurns middle = Edges.scene("t1*1,w2*2,t3*3+3");
        middle.drop(1);
        E.sameText("the others stay", Edges.text(middle), "t1*1,t3*3+3;20");
        E.of("Promise 3", "Returns how many are left; INVALID_ARGUMENT.");
        EchoTurns x = Edges.scene("t1*1,t2*1,t3*1,t4*1,t5*1,t6*1");
        for (int left = 5; left >= 0; left--) {
            E.same("drop(" + left / 2 + ")", x.drop(left / 2), left);
            E.same("count(0)", x.count(0), left);
        }
        E.same("drop(0) of none", x.drop(0), Edges.INVALID);
    }

    private static void dropWrong() {
        E.of("Promise 3", "- `target`: its number");
        int[] wrong = {Edges.MIN, -1, 2, 5, 6, Edges.MAX};
        EchoTurns x = Edges.scene("t1*1,t2*1");
        for (int target : wrong) {
            E.same("drop(" + target + ")", x.drop(target), Edges.INVALID);
        }
        E.same("count(0)", x.count(0), 2);
        E.same("drop(1), the last", x.drop(1), 1);
        E.same("drop(1), which went", x.drop(1), Edges.INVALID);
        E.same("drop(0), the first", x.drop(0), 0);
        EchoTurns six = Edges.scene("t1*1,t2*1,t3*1,t4*1,t5*1,t6*1");
        E.same("drop(6) of six", six.drop(6), Edges.INVALID);
        E.same("drop(5) of six", six.drop(5), 5);
    }

    private static void goMoves() {
        E.of("Promise 4",
            "Lets all targets move: the distance of each one grows by its movement, as many times as there are turns;");
        String[] spacings = {"20", "20/20", "20/20/20", "20/20/20/20"};
        for (int turns = 1; turns <= 4; turns++) {
            EchoTurns x = Edges.scene("t100*9+5,t100*8-5,w100*7,t50*6+1,t50*5-1;" + spacings[turns - 1]);
            E.same("go() with " + turns + " turns", x.go(), 5);
            int[] wanted = {100 + 5 * turns, 100 - 5 * turns, 100, 50 + turns, 50 - turns};
            for (int target = 0; target < 5; target++) {
                E.same("distance of " + target, x.targetOf(target, 0), wanted[target]);
                E.same("strength of " + target, x.targetOf(target, 1), 9 - target);
            }
            E.same("the movement stays", x.targetOf(1, 2), 0);
            E.same("the wall stays", x.targetOf(2, 3), 1);
        }
    }

    private static void goThoseThatGo() {
        E.of("Promise 4", " those that would not be from 1 to 300 then go.");
        Object[][] all = {
            {"t2*9-1;20", "t1*9-1;20"}, {"t1*9-1;20", ""}, {"t5*9-5;20", ""}, {"t6*9-5;20", "t1*9-5;20"}, {"t4*9-5;20", ""},
            {"t295*9+5;20", "t300*9+5;20"}, {"t296*9+5;20", ""}, {"t300*9+1;20", ""}, {"t299*9+1;20", "t300*9+1;20"},
            {"t20*9-5;10/10/10/10", ""}, {"t21*9-5;10/10/10/10", "t1*9-5;10/10/10/10"}, {"t19*9-5;10/10/10/10", ""},
            {"t280*9+5;10/10/10/10", "t300*9+5;10/10/10/10"}, {"t281*9+5;10/10/10/10", ""},
            {"w1*9,w300*9;10/10/10/10", "w1*9,w300*9;10/10/10/10"}, {"t1*9,t300*9;20", "t1*9,t300*9;20"},
            {"t1*9-1,t300*9+1,w9*9,t3*9-3,t8*8;20", "w9*9,t8*8;20"}
        };
        for (Object[] one : all) {
            EchoTurns x = Edges.scene((String) one[0]);
            x.go();
            E.sameText("behind go(): " + one[0], Edges.text(x), (String) one[1]);
        }
    }

    private static void goReturns() {
        E.of("Promise 4", "Returns how many are left.");
        E.same("of none", new EchoTurns().go(), 0);
        E.same("of three that stay", Edges.scene("t5*5,t6*5,t7*5+5").go(), 3);
        E.same("of three where one goes", Edges.scene("t5*5-5,t6*5,t7*5+5").go(), 2);
        E.same("of two that go", Edges.scene("t5*5-5,t300*5+1").go(), 0);
        EchoTurns six = Edges.scene("t1*1-1,t2*1-2,t3*1-3,t4*1-4,t5*1-5,t6*1-5");
        E.same("of six where five go", six.go(), 1);
        E.same("then of one that goes", six.go(), 0);
        E.same("then of none", six.go(), 0);
    }

    private static void spacingsRanges() {
        int[] tried = {Edges.MIN, -20, -1, 0, 1, 9, 10, 11, 49, 50, 51, 60, Edges.MAX};
        E.of("Promise 5", "- `first`: 10 to 50");
        for (int value : tried) {
            boolean right = value >= 10 && value <= 50;
            E.same("first " + value, new EchoTurns().spacings(value, 0, 0, 0), right ? 1 : Edges.INVALID);
            E.same("first " + value + " of four", new EchoTurns().spacings(value, 20, 20, 20), right ? 4 : Edges.INVALID);
        }
        E.of("Promise 5", "- `second`: 10 to 50; 0 if there is none");
        for (int value : tried) {
            boolean right = value >= 10 && value <= 50;
            E.same("second " + value, new EchoTurns().spacings(20, value, 0, 0), right ? 2 : value == 0 ? 1 : Edges.INVALID);
        }
        E.of("Promise 5", "- `third`: 10 to 50; 0 if there is none");
        for (int value : tried) {
            boolean right = value >= 10 && value <= 50;
            E.same("third " + value, new EchoTurns().spacings(20, 21, value, 0), right ? 3 : value == 0 ? 2 : Edges.INVALID);
        }
        E.of("Promise 5", "- `fourth`: 10 to 50; 0 if there is none");
        for (int value : tried) {
            boolean right = value >= 10 && value <= 50;
            E.same("fourth " + value, new EchoTurns().spacings(20, 21, 22, value), right ? 4 : value == 0 ? 3 : Edges.INVALID);
        }
    }

    private static void spacingsReturns() {
        E.of("Promise 5", "Changes the spacings.");
        EchoTurns x = new EchoTurns();
        x.spacings(12, 13, 0, 0);
        E.same("count(4)", x.count(4), 12);
        E.same("count(5)", x.count(5), 13);
        E.of("Promise 5", "Returns how many there are then; INVALID_ARGUMENT");
        int[][] all = {{50, 10, 50, 10, 4}, {11, 12, 13, 0, 3}, {14, 15, 0, 0, 2}, {16, 0, 0, 0, 1}, {17, 17, 17, 17, 4}};
        for (int[] one : all) {
            E.same("spacings(" + one[0] + ", ..)", x.spacings(one[0], one[1], one[2], one[3]), one[4]);
            E.same("count(3)", x.count(3), one[4]);
            for (int turn = 0; turn < 4; turn++) {
                E.same("count(" + (4 + turn) + ")", x.count(4 + turn), turn < one[4] ? one[turn] : Edges.NOT_FOUND);
            }
        }
    }

    private static void spacingsWithGaps() {
        E.of("Promise 5", " (also if there is none ahead of one that there is).");
        int[][] gaps = {{0, 20, 0, 0}, {0, 0, 20, 0}, {0, 0, 0, 20}, {0, 20, 20, 20}, {20, 0, 20, 0}, {20, 0, 0, 20}, {20, 0, 20, 20},
            {20, 20, 0, 20}};
        for (int[] one : gaps) {
            EchoTurns x = new EchoTurns();
            E.same("spacings(" + one[0] + ", " + one[1] + ", " + one[2] + ", " + one[3] + ")",
                x.spacings(one[0], one[1], one[2], one[3]), Edges.INVALID);
            E.same("count(3)", x.count(3), 1);
            E.same("count(18)", x.count(18), 0);
        }
    }

    private static void setRanges() {
        E.of("Promise 6", "Changes a setting.");
        EchoTurns changed = new EchoTurns();
        changed.set(1, 6);
        E.same("count(15)", changed.count(15), 6);
        E.same("count(14)", changed.count(14), 0);
        E.of("Promise 6", "- `what`: 0 or 1");
        int[] whats = {Edges.MIN, -1, 2, 3, Edges.MAX};
        for (int what : whats) {
            E.same("set(" + what + ", 1)", new EchoTurns().set(what, 1), Edges.INVALID);
            E.same("set(" + what + ", 0)", new EchoTurns().set(what, 0), Edges.INVALID);
        }
        E.of("Promise 6", "- `value`: a value in its range");
        int[][] values = {{0, Edges.MIN, -1}, {0, -1, -1}, {0, 0, 0}, {0, 9, 0}, {0, 10, -1}, {0, 99, -1}, {0, Edges.MAX, -1},
            {1, Edges.MIN, -1}, {1, -1, -1}, {1, 0, -1}, {1, 1, 1}, {1, 9, 1}, {1, 10, 1}, {1, 99, 1}, {1, 100, -1}, {1, Edges.MAX, -1}};
        for (int[] one : values) {
            EchoTurns x = new EchoTurns();
            E.same("set(" + one[0] + ", " + one[1] + ")", x.set(one[0], one[1]), one[2]);
            E.same("count(" + (14 + one[0]) + ")", x.count(14 + one[0]), one[2] < 0 ? one[0] : one[1]);
            E.same("the other one", x.count(15 - one[0]), 1 - one[0]);
        }
    }

    private static void setReturns() {
        E.of("Promise 6", "Returns the value before; INVALID_ARGUMENT.");
        EchoTurns x = new EchoTurns();
        int[][] all = {{0, 9, 0}, {1, 99, 1}, {0, 0, 9}, {1, 1, 99}, {0, 0, 0}, {1, 1, 1}, {0, 5, 0}, {1, 6, 1}, {0, 6, 5}, {1, 5, 6}};
        for (int[] one : all) {
            E.same("set(" + one[0] + ", " + one[1] + ")", x.set(one[0], one[1]), one[2]);
        }
        E.same("a wrong one between", x.set(0, 10), Edges.INVALID);
        E.same("set(0, 1) behind it", x.set(0, 1), 6);
    }
}
