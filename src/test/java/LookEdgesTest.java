/** The sentences of the promises 12 to 16, each at its edges: targetOf, ghost, echo, fits, told. */
final class LookEdgesTest {
    private static final Edges E = new Edges("LookEdgesTest");
    private static final int[] FAR_OUT = {Edges.MIN, Edges.MIN + 1, -7, -1, 7, 99, Edges.MAX - 1, Edges.MAX};

    private LookEdgesTest() {
    }

    public static void main(String[] args) {
        targetNumbers();
        targetProperties();
        targetTold();
        targetLost();
        targetGhosts();
        ghostOrder();
        ghostNumbers();
        ghostProperties();
        echoOrder();
        echoNumbers();
        echoProperties();
        fitsRanges();
        fitsReturns();
        toldPlaces();
        toldProperties();
        E.end();
    }

    private static void targetNumbers() {
        E.of("Promise 12", "- `target`: its number");
        E.same("targetOf(0, 0) of none", new EchoTurns().targetOf(0, 0), Edges.INVALID);
        EchoTurns x = Edges.scene("t1*1,t2*1,t3*1,t4*1,t5*1,t6*1");
        E.same("targetOf(0, 0)", x.targetOf(0, 0), 1);
        E.same("targetOf(5, 0)", x.targetOf(5, 0), 6);
        E.same("targetOf(6, 0)", x.targetOf(6, 0), Edges.INVALID);
        E.of("Promise 12", "Returns the number; INVALID_ARGUMENT.");
        for (int number : FAR_OUT) {
            E.same("targetOf(" + number + ", 0)", x.targetOf(number, 0), Edges.INVALID);
            E.same("targetOf(0, " + number + ")", x.targetOf(0, number), Edges.INVALID);
            E.same("targetOf(" + number + ", 6)", x.targetOf(number, 6), Edges.INVALID);
        }
        E.same("targetOf(0, 6)", x.targetOf(0, 6), 0);
        x.drop(5);
        for (int what = 0; what <= 6; what++) {
            E.same("targetOf(5, " + what + ") of five", x.targetOf(5, what), Edges.INVALID);
        }
    }

    private static void targetProperties() {
        E.of("Promise 12", "Returns a property of a target.");
        EchoTurns x = Edges.scene("t1*99-5,t300*1+5,w7*8,t8*7");
        E.same("targetOf(1, 0)", x.targetOf(1, 0), 300);
        E.same("the same again", x.targetOf(1, 0), 300);
        E.of("Promise 12", "- `what`: 0: its distance; 1: its strength; 2: its movement, and 5; 3: 1 if it is a wall, otherwise 0;");
        int[][] wanted = {{1, 99, 0, 0}, {300, 1, 10, 0}, {7, 8, 5, 1}, {8, 7, 5, 0}};
        for (int target = 0; target < 4; target++) {
            for (int what = 0; what < 4; what++) {
                E.same("targetOf(" + target + ", " + what + ")", x.targetOf(target, what), wanted[target][what]);
            }
        }
    }

    private static void targetTold() {
        E.of("Promise 12", " 4: 1 if it is told, otherwise 0;");
        E.same("heard in the only turn", Edges.scene("t1*1").targetOf(0, 4), 1);
        E.same("the farthest one", Edges.scene("t300*99;50/49/48/47").targetOf(0, 4), 1);
        E.same("at LOUD", Edges.scene("t9*5", 0, 5).targetOf(0, 4), 1);
        E.same("below LOUD", Edges.scene("t9*5", 0, 6).targetOf(0, 4), 0);
        E.same("below LOUD, with a loud one at the same place", Edges.scene("t9*5,t29*6", 0, 6).targetOf(0, 4), 1);
        E.same("below LOUD, with a loud one at another place in one turn",
            Edges.scene("t9*5,t29*6;20/30", 0, 6).targetOf(0, 4), 0);
        E.same("below LOUD, with a loud one of another pitch", Edges.scene("t9*5,t29*6+1", 0, 6).targetOf(0, 4), 0);
        E.same("below LOUD, with a loud ghost at the same place", Edges.scene("w5*40,t15*7,w10*40", 0, 8).targetOf(1, 4), 1);
        E.same("at BLIND", Edges.scene("t29*5", 9, 1).targetOf(0, 4), 1);
        E.same("below BLIND", Edges.scene("t28*5", 9, 1).targetOf(0, 4), 0);
        E.same("below BLIND in three of four turns", Edges.scene("t39*5;10/36/19/31", 9, 1).targetOf(0, 4), 1);
        E.same("below BLIND in four of four turns", Edges.scene("t38*5;10/36/19/31", 9, 1).targetOf(0, 4), 0);
        E.same("heard in the last turn alone", Edges.scene("t9*5-3;20/20/20/20", 9, 1).targetOf(0, 4), 1);
        E.same("a wall", Edges.scene("w1*1").targetOf(0, 4), 1);
    }

    private static void targetLost() {
        E.of("Promise 12", " 5: in how many turns its echo is lost;");
        int[] nearing = {0, 0, 0, 1, 1, 2, 2, 3, 3, 4};
        int[] spread = {0, 1, 1, 1, 2, 2, 2, 3, 3, 3};
        for (int blind = 0; blind <= 9; blind++) {
            E.same("8, 6, 4, 2 with BLIND " + blind, Edges.scene("t8*9-2;20/20/20/20", blind, 1).targetOf(0, 5), nearing[blind]);
            E.same("9, 6, 3, 0 with BLIND " + blind, Edges.scene("t9*9-3;20/20/20/20", blind, 1).targetOf(0, 5), spread[blind]);
            E.same("too faint with BLIND " + blind, Edges.scene("t9*9-3;20/20/20/20", blind, 10).targetOf(0, 5), 0);
            E.same("at 0 in each turn with BLIND " + blind,
                Edges.scene("w120*9;10/20/30/40", blind, 9).targetOf(0, 5), blind == 0 ? 0 : 4);
        }
    }

    private static void targetGhosts() {
        E.of("Promise 12", " 6: how many ghosts it has a part in");
        E.same("a wall alone", Edges.scene("w5*99").targetOf(0, 6), 0);
        E.same("a target between walls", Edges.scene("w5*99,t6*99,w7*99").targetOf(1, 6), 0);
        E.same("a wall with another one", Edges.scene("w5*99,t6*99,w7*99").targetOf(2, 6), 1);
        EchoTurns six = Edges.scene("w10*20,w20*20,w30*20,w40*20,w50*20,w60*9");
        for (int wall = 0; wall < 5; wall++) {
            E.same("a wall with four strong ones", six.targetOf(wall, 6), 4);
        }
        E.same("a wall that is too weak for any", six.targetOf(5, 6), 0);
        six.set(1, 99);
        E.same("faint ghosts are ghosts", six.targetOf(0, 6), 4);
        EchoTurns all = Edges.scene("w10*15,w20*20,w30*20,w40*20,w50*20,w60*99");
        E.same("the first of all", all.targetOf(0, 6), 5);
        E.same("the last of all", all.targetOf(5, 6), 5);
    }

    private static void ghostOrder() {
        E.of("Promise 13",
            "Returns a property of a ghost. Ghosts are numbered by the lesser number of their walls, then by the greater one.");
        EchoTurns x = Edges.scene("w50*99,t20*99,w40*98,w30*97,w60*96");
        int[][] walls = {{0, 2}, {0, 3}, {0, 4}, {2, 3}, {2, 4}, {3, 4}};
        int[] distances = {60, 70, 70, 50, 80, 90};
        for (int ghost = 0; ghost < 6; ghost++) {
            E.same("ghost(" + ghost + ", 0)", x.ghost(ghost, 0), distances[ghost]);
            E.same("ghost(" + ghost + ", 2)", x.ghost(ghost, 2), walls[ghost][0]);
            E.same("ghost(" + ghost + ", 3)", x.ghost(ghost, 3), walls[ghost][1]);
        }
        x.drop(1);
        E.same("ghost(0, 3) when a target went", x.ghost(0, 3), 1);
        E.same("ghost(5, 2) when a target went", x.ghost(5, 2), 2);
        x.drop(0);
        E.same("ghost(0, 0) when a wall went", x.ghost(0, 0), 50);
        E.same("ghost(3, 0) when a wall went", x.ghost(3, 0), Edges.NOT_FOUND);
    }

    private static void ghostNumbers() {
        E.of("Promise 13", "- `ghost`: from 0");
        EchoTurns x = Edges.scene("w50*99,w40*98");
        E.same("ghost(0, 0)", x.ghost(0, 0), 60);
        E.of("Promise 13", "Returns the number; INVALID_ARGUMENT (also if ghost is below 0);");
        E.same("ghost(-1, 0)", x.ghost(-1, 0), Edges.INVALID);
        E.same("ghost(MIN, 0)", x.ghost(Edges.MIN, 0), Edges.INVALID);
        E.same("ghost(-1, 0) of none", new EchoTurns().ghost(-1, 0), Edges.INVALID);
        E.same("ghost(-1, 5)", x.ghost(-1, 5), Edges.INVALID);
        E.same("ghost(0, 5)", x.ghost(0, 5), Edges.INVALID);
        for (int what : FAR_OUT) {
            E.same("ghost(0, " + what + ")", x.ghost(0, what), Edges.INVALID);
            E.same("ghost(0, " + what + ") of none", new EchoTurns().ghost(0, what), Edges.INVALID);
        }
        E.of("Promise 13", " NOT_FOUND if there are not so many.");
        E.same("ghost(1, 0)", x.ghost(1, 0), Edges.NOT_FOUND);
        E.same("ghost(1, 4)", x.ghost(1, 4), Edges.NOT_FOUND);
        E.same("ghost(MAX, 0)", x.ghost(Edges.MAX, 0), Edges.NOT_FOUND);
        E.same("ghost(0, 0) of none", new EchoTurns().ghost(0, 0), Edges.NOT_FOUND);
        E.same("ghost(0, 0) of targets", Edges.scene("t5*99,t6*99").ghost(0, 0), Edges.NOT_FOUND);
        EchoTurns six = Edges.scene("w1*20,w2*20,w3*20,w4*20,w5*20,w6*20");
        E.same("ghost(14, 0)", six.ghost(14, 0), 7);
        E.same("ghost(15, 0)", six.ghost(15, 0), Edges.NOT_FOUND);
        E.same("ghost(20, 0)", six.ghost(20, 0), Edges.NOT_FOUND);
        E.same("ghost(21, 0)", six.ghost(21, 0), Edges.NOT_FOUND);
    }

    private static void ghostProperties() {
        E.of("Promise 13", "- `what`: 0: its distance; 1: its strength; 2: the lesser number of its walls; 3: the greater one;");
        EchoTurns x = Edges.scene("t9*9,w300*99,w1*99,w2*3");
        int[][] wanted = {{599, 49, 1, 2}, {598, 1, 1, 3}, {3, 1, 2, 3}};
        for (int ghost = 0; ghost < 3; ghost++) {
            for (int what = 0; what < 4; what++) {
                E.same("ghost(" + ghost + ", " + what + ")", x.ghost(ghost, what), wanted[ghost][what]);
            }
        }
        E.of("Promise 13", " 4: 1 if it is told, otherwise 0");
        EchoTurns two = Edges.scene("w16*40,w18*40;19", 0, 8);
        E.same("at LOUD, at 1", two.ghost(0, 4), 1);
        two.set(1, 9);
        E.same("below LOUD", two.ghost(0, 4), 0);
        two.set(1, 1);
        two.set(0, 1);
        E.same("at BLIND", two.ghost(0, 4), 1);
        two.set(0, 2);
        E.same("below BLIND", two.ghost(0, 4), 0);
        two.spacings(19, 18, 0, 0);
        E.same("below BLIND in one of two", two.ghost(0, 4), 1);
        E.same("the farthest", Edges.scene("w1*99,w300*99;50/49/48/47").ghost(0, 4), 1);
        E.same("too faint, with a loud target there", Edges.scene("w10*40,w20*40,t30*50", 0, 9).ghost(0, 4), 1);
    }

    private static void echoOrder() {
        E.of("Promise 14",
            "Returns a property of an echo that is heard. Echoes of a turn are put in an order: by the place, of the same place by the pitch.");
        EchoTurns x = Edges.scene("t49*1+5,t50*2-5,t99*3-5,t9*4,t100*5+5,t49*6-1;50");
        int[][] wanted = {{0, 0, 2}, {0, 10, 5}, {9, 5, 4}, {49, 0, 3}, {49, 4, 6}, {49, 10, 1}};
        for (int echo = 0; echo < 6; echo++) {
            for (int what = 0; what < 3; what++) {
                E.same("echo(0, " + echo + ", " + what + ")", x.echo(0, echo, what), wanted[echo][what]);
            }
        }
        E.same("echo(0, 6, 0)", x.echo(0, 6, 0), Edges.NOT_FOUND);
    }

    private static void echoNumbers() {
        E.of("Promise 14", "- `turn`: from 0");
        EchoTurns x = Edges.scene("t9*9;10/20/30/40");
        for (int turn = 0; turn < 4; turn++) {
            E.same("echo(" + turn + ", 0, 0)", x.echo(turn, 0, 0), 9);
        }
        E.same("echo(4, 0, 0)", x.echo(4, 0, 0), Edges.INVALID);
        E.same("echo(4, 9, 0)", x.echo(4, 9, 0), Edges.INVALID);
        for (int turn : FAR_OUT) {
            E.same("echo(" + turn + ", 0, 0)", x.echo(turn, 0, 0), Edges.INVALID);
            E.same("echo(0, 0, " + turn + ")", x.echo(0, 0, turn), Edges.INVALID);
        }
        E.same("echo(0, 0, 4)", x.echo(0, 0, 4), Edges.INVALID);
        E.of("Promise 14", "- `echo`: from 0, in this order");
        EchoTurns two = Edges.scene("t12*9,t11*9;10");
        E.same("echo(0, 0, 0) of 2 and 1", two.echo(0, 0, 0), 1);
        E.same("echo(0, 1, 0) of 2 and 1", two.echo(0, 1, 0), 2);
        E.of("Promise 14", "Returns the number; INVALID_ARGUMENT (also if echo is below 0);");
        E.same("echo(0, -1, 0)", x.echo(0, -1, 0), Edges.INVALID);
        E.same("echo(0, MIN, 0)", x.echo(0, Edges.MIN, 0), Edges.INVALID);
        E.same("echo(0, -1, 0) of none", new EchoTurns().echo(0, -1, 0), Edges.INVALID);
        E.of("Promise 14", " NOT_FOUND if there are not so many.");
        E.same("echo(0, 1, 0)", x.echo(0, 1, 0), Edges.NOT_FOUND);
        E.same("echo(3, 1, 3)", x.echo(3, 1, 3), Edges.NOT_FOUND);
        E.same("echo(0, MAX, 0)", x.echo(0, Edges.MAX, 0), Edges.NOT_FOUND);
        E.same("echo(0, 0, 0) of none", new EchoTurns().echo(0, 0, 0), Edges.NOT_FOUND);
        E.same("echo(0, 0, 0) of one that is lost", Edges.scene("t20*9", 1, 1).echo(0, 0, 0), Edges.NOT_FOUND);
        E.same("echo(0, 0, 0) of one that is too faint", Edges.scene("t25*9", 0, 10).echo(0, 0, 0), Edges.NOT_FOUND);
        EchoTurns most = Edges.scene("w1*20,w3*20,w7*20,w15*20,w31*20,w63*20;50");
        // 1, 3, 7, 15, 31 and 13; ghosts at 5, 13, 11, 29, 27, 23, 11, 9, 5, 47, 25, 23, 19, 11 and 45.
        E.same("places that there are", most.echo(0, 15, 0), 47);
        E.same("no more", most.echo(0, 16, 0), Edges.NOT_FOUND);
    }

    private static void echoProperties() {
        E.of("Promise 14", "- `what`: 0: its place; 1: its pitch, and 5; 2: its strength; 3: of how many targets and ghosts it is,");
        EchoTurns x = Edges.scene("w10*99,w20*98,t30*1,t40*1+5,t50*2+5;10/20");
        int[][][] wanted = {{{0, 5, 99 + 98 + 1 + 48, 4}, {0, 10, 3, 2}}, {{0, 5, 98, 1}, {5, 10, 1, 1}, {10, 5, 99 + 1 + 48, 3},
            {15, 10, 2, 1}}};
        for (int turn = 0; turn < 2; turn++) {
            for (int echo = 0; echo < wanted[turn].length; echo++) {
                for (int what = 0; what < 4; what++) {
                    E.same("echo(" + turn + ", " + echo + ", " + what + ")", x.echo(turn, echo, what), wanted[turn][echo][what]);
                }
            }
            E.same("no more", x.echo(turn, wanted[turn].length, 0), Edges.NOT_FOUND);
        }
        E.of("Promise 14", " those that are too faint not counted");
        x.set(1, 2);
        E.same("at LOUD 2: the walls and the ghost", x.echo(0, 0, 3), 3);
        E.same("at LOUD 2: one of two", x.echo(0, 1, 3), 1);
        x.set(1, 48);
        E.same("at LOUD 48: the walls and the ghost", x.echo(0, 0, 3), 3);
        x.set(1, 49);
        E.same("at LOUD 49: the walls", x.echo(0, 0, 3), 2);
        x.set(1, 99);
        E.same("at LOUD 99: one wall", x.echo(0, 0, 3), 1);
        E.same("at LOUD 99: none in the second turn at 0", x.echo(1, 0, 0), 10);
    }

    private static void fitsRanges() {
        EchoTurns x = Edges.scene("t10*9;10/10/10/10");
        E.of("Promise 15", "- `distance`: 1 to 600");
        int[][] distances = {{Edges.MIN, -1}, {-10, -1}, {-1, -1}, {0, -1}, {1, 0}, {10, 1}, {599, 0}, {600, 1}, {601, -1}, {610, -1},
            {Edges.MAX, -1}};
        for (int[] one : distances) {
            E.same("fits(" + one[0] + ", 0, 0)", x.fits(one[0], 0, 0), one[1]);
        }
        E.of("Promise 15", "- `pitch`: -5 to 5");
        int[][] pitches = {{Edges.MIN, -1}, {-11, -1}, {-6, -1}, {-5, 0}, {-1, 0}, {0, 1}, {1, 0}, {5, 0}, {6, -1}, {Edges.MAX, -1}};
        for (int[] one : pitches) {
            E.same("fits(10, " + one[0] + ", 0)", x.fits(10, one[0], 0), one[1]);
        }
        E.of("Promise 15", "- `turn`: from 0");
        int[][] turns = {{Edges.MIN, -1}, {-1, -1}, {0, 1}, {3, 1}, {4, -1}, {5, -1}, {Edges.MAX, -1}};
        for (int[] one : turns) {
            E.same("fits(10, 0, " + one[0] + ")", x.fits(10, 0, one[0]), one[1]);
        }
        E.same("fits(10, 0, 1) of one turn", Edges.scene("t10*9;10").fits(10, 0, 1), Edges.INVALID);
    }

    private static void fitsReturns() {
        E.of("Promise 15", "Tells how a distance with a pitch fits a turn.");
        EchoTurns x = Edges.scene("t5*9+1,t12*9;20/21", 5, 9);
        E.same("fits(12, 0, 1)", x.fits(12, 0, 1), 1);
        E.same("fits(12, 1, 1), another pitch", x.fits(12, 1, 1), 0);
        E.of("Promise 15", "Returns 0 if it does not fit; 1 if it fits; 2 if it is blind; INVALID_ARGUMENT.");
        int[][] wanted = {{5, 1, 0, 1}, {5, 1, 1, 1}, {4, 1, 0, 2}, {4, 1, 1, 0}, {3, 1, 1, 2}, {5, 0, 0, 0}, {12, 0, 0, 1},
            {12, 0, 1, 1}, {32, 0, 0, 1}, {33, 0, 1, 1}, {33, 0, 0, 0}, {24, -5, 0, 2}, {25, -5, 0, 0}, {600, 0, 0, 2}, {600, 0, 1, 1},
            {599, 0, 1, 0}, {600, 1, 1, 0}, {588, 0, 1, 2}, {592, 0, 0, 1}, {600, -1, 1, 0}, {0, 0, 0, -1}};
        for (int[] one : wanted) {
            E.same("fits(" + one[0] + ", " + one[1] + ", " + one[2] + ")", x.fits(one[0], one[1], one[2]), one[3]);
        }
        E.same("fits(1, 0, 0) of none", new EchoTurns().fits(1, 0, 0), 0);
        E.same("fits(600, 5, 0) of none", new EchoTurns().fits(600, 5, 0), 0);
    }

    private static void toldPlaces() {
        E.of("Promise 16", "Returns a told distance.");
        EchoTurns x = Edges.scene("t7*9;50");
        E.same("told(0, 0)", x.told(0, 0), 7);
        E.same("the same again", x.told(0, 0), 7);
        E.of("Promise 16", "- `place`: from 0, in the order of the told ones");
        for (int place = 0; place < 12; place++) {
            E.same("told(" + place + ", 0)", x.told(place, 0), 7 + 50 * place);
        }
        E.of("Promise 16", "Returns the number; INVALID_ARGUMENT (also if place is below 0);");
        E.same("told(-1, 0)", x.told(-1, 0), Edges.INVALID);
        E.same("told(MIN, 3)", x.told(Edges.MIN, 3), Edges.INVALID);
        E.same("told(-1, 0) of none", new EchoTurns().told(-1, 0), Edges.INVALID);
        E.same("told(0, 4)", x.told(0, 4), Edges.INVALID);
        E.same("told(12, 4)", x.told(12, 4), Edges.INVALID);
        for (int what : FAR_OUT) {
            E.same("told(0, " + what + ")", x.told(0, what), Edges.INVALID);
            E.same("told(0, " + what + ") of none", new EchoTurns().told(0, what), Edges.INVALID);
        }
        E.of("Promise 16", " NOT_FOUND if there are not so many.");
        E.same("told(12, 0)", x.told(12, 0), Edges.NOT_FOUND);
        E.same("told(12, 3)", x.told(12, 3), Edges.NOT_FOUND);
        E.same("told(MAX, 0)", x.told(Edges.MAX, 0), Edges.NOT_FOUND);
        E.same("told(0, 0) of none", new EchoTurns().told(0, 0), Edges.NOT_FOUND);
        E.same("told(0, 0) of one that is lost", Edges.scene("t20*9", 1, 1).told(0, 0), Edges.NOT_FOUND);
        E.same("told(0, 0) of one that is too faint", Edges.scene("t25*9", 0, 10).told(0, 0), Edges.NOT_FOUND);
        E.same("told(1, 0) of one alone", Edges.scene("t300*9;50/49").told(1, 0), Edges.NOT_FOUND);
        E.same("told(0, 0) of one alone", Edges.scene("t300*9;50/49").told(0, 0), 300);
    }

    private static void toldProperties() {
        E.of("Promise 16",
            "- `what`: 0: the distance; 1: the pitch, and 5; 2: 1 if it is true, 0 if it is a phantom; 3: how many turns it fits");
        EchoTurns x = Edges.scene("t1*9-5,t1*9+5,t9*9;10/20", 1, 1);
        // 1 with -5 is at 1 and then at 0, which is blind; 1 with +5 is at 1 and 6; 9 is at 9 in both.
        int[][] wanted = {{1, 0, 1, 1}, {1, 10, 1, 2}, {9, 5, 1, 2}, {21, 10, 0, 2}};
        for (int place = 0; place < 4; place++) {
            for (int what = 0; what < 4; what++) {
                E.same("told(" + place + ", " + what + ")", x.told(place, what), wanted[place][what]);
            }
        }
        EchoTurns four = Edges.scene("t49*9;50/20/30/40", 9, 1);
        E.same("in four turns", four.told(0, 3), 4);
        four.spacings(50, 49, 48, 47);
        E.same("in one turn, lost in three", four.told(0, 3), 1);
        four.spacings(50, 49, 40, 47);
        E.same("in two turns, lost in two", four.told(0, 3), 2);
    }
}
