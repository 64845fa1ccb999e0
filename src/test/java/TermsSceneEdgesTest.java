/** The sentences of the section "The scene", each at its edges. */
final class TermsSceneEdgesTest {
    private static final Edges E = new Edges("TermsSceneEdgesTest");

    private TermsSceneEdgesTest() {
    }

    public static void main(String[] args) {
        wholeNumbers();
        roundedDown();
        atMostSix();
        numbersOfTargets();
        numbersWhenOneGoes();
        rangesOfATarget();
        wallsStandStill();
        noTwins();
        ghostOfEachTwoWalls();
        distancesOfGhosts();
        strengthsOfGhosts();
        noGhostWithoutStrength();
        oneToFourSpacings();
        theFirstSpacing();
        distanceInATurn();
        remainderBySpacing();
        lostEchoes();
        faintEchoes();
        faintOnesAreNotLost();
        echoesThatAreOne();
        strengthTogether();
        E.end();
    }

    private static void wholeNumbers() {
        E.of("Terms", "All numbers are whole numbers, but where a double is told.");
        EchoTurns x = Edges.scene("t3*9;20");
        E.sameDouble("truth() of 1 in 30", x.truth(), 1.0 / 30.0);
        E.same("count(11)", x.count(11), 30);
    }

    private static void roundedDown() {
        E.of("Terms", "Divisions are rounded down.");
        E.same("strength of the ghost: 399 by 200", Edges.scene("w10*19,w20*21").ghost(0, 1), 1);
        E.same("strength of the ghost: 400 by 200", Edges.scene("w10*20,w20*20").ghost(0, 1), 2);
        E.same("strength of the ghost: 396 by 200", Edges.scene("w10*99,w20*4").ghost(0, 1), 1);
        E.same("strength of the ghost: 9801 by 200", Edges.scene("w10*99,w20*99").ghost(0, 1), 49);
    }

    private static void atMostSix() {
        E.of("The scene", "There are at most 6 targets");
        EchoTurns x = new EchoTurns();
        for (int target = 0; target < 6; target++) {
            E.same("target " + target, x.target(10 + target, 5, 0, false), target);
        }
        E.same("a seventh", x.target(50, 5, 0, false), Edges.LIMIT);
        E.same("a seventh that is a wall", x.target(50, 5, 0, true), Edges.LIMIT);
        E.same("count(0)", x.count(0), 6);
        x.drop(2);
        E.same("one more when one went", x.target(50, 5, 0, false), 5);
        E.same("and a seventh again", x.target(51, 5, 0, false), Edges.LIMIT);
        E.same("six of a pad", Edges.pad("t1*1,t2*1,t3*1,t4*1,t5*1,t6*1").load(), 6);
        E.same("seven of a pad", Edges.pad("t1*1,t2*1,t3*1,t4*1,t5*1,t6*1,t7*1").load(), Edges.LIMIT);
    }

    private static void numbersOfTargets() {
        E.of("The scene", "numbered from 0 in the order in which they came");
        EchoTurns x = new EchoTurns();
        for (int target = 0; target < 6; target++) {
            E.same("the number of " + target, x.target(300 - 50 * target, 90 - target, 0, target % 2 == 0), target);
        }
        for (int target = 0; target < 6; target++) {
            E.same("distance of " + target, x.targetOf(target, 0), 300 - 50 * target);
            E.same("strength of " + target, x.targetOf(target, 1), 90 - target);
        }
        E.same("no target -1", x.targetOf(-1, 0), Edges.INVALID);
        E.same("no target 6", x.targetOf(6, 0), Edges.INVALID);
    }

    private static void numbersWhenOneGoes() {
        E.of("The scene", "(when one goes, those with greater numbers get numbers that are 1 less)");
        String[] left = {"w20*2,t30*3-3,t40*4+5;20", "t10*1+1,t30*3-3,t40*4+5;20", "t10*1+1,w20*2,t40*4+5;20",
            "t10*1+1,w20*2,t30*3-3;20"};
        for (int target = 0; target < 4; target++) {
            EchoTurns x = Edges.scene("t10*1+1,w20*2,t30*3-3,t40*4+5");
            x.drop(target);
            E.sameText("drop(" + target + ")", Edges.text(x), left[target]);
            E.same("no target 3 then", x.targetOf(3, 0), Edges.INVALID);
        }
        EchoTurns x = Edges.scene("t1*1-1,w20*2,t300*3+1,t40*4+5,t2*9-2");
        x.go();
        E.sameText("go()", Edges.text(x), "w20*2,t45*4+5;20");
    }

    private static void rangesOfATarget() {
        E.of("The scene", "A target has a distance, 1 to 300, a strength, 1 to 99, a movement, -5 to 5, and is a wall or not");
        for (int value = -7; value <= 306; value++) {
            boolean distance = value >= 1 && value <= 300;
            boolean strength = value >= 1 && value <= 99;
            boolean movement = value >= -5 && value <= 5;
            E.same("distance " + value, new EchoTurns().target(value, 5, 0, false), distance ? 0 : Edges.INVALID);
            E.same("strength " + value, new EchoTurns().target(5, value, 0, false), strength ? 0 : Edges.INVALID);
            E.same("movement " + value, new EchoTurns().target(5, 5, value, false), movement ? 0 : Edges.INVALID);
        }
        E.sameText("the least of each", Edges.text(targetOf(1, 1, -5, false)), "t1*1-5;20");
        E.sameText("the greatest of each", Edges.text(targetOf(300, 99, 5, false)), "t300*99+5;20");
        E.sameText("the least wall", Edges.text(targetOf(1, 1, 0, true)), "w1*1;20");
        E.sameText("the greatest wall", Edges.text(targetOf(300, 99, 0, true)), "w300*99;20");
    }

    private static EchoTurns targetOf(int distance, int strength, int movement, boolean wall) {
        EchoTurns x = new EchoTurns();
        x.target(distance, strength, movement, wall);
        return x;
    }

    private static void wallsStandStill() {
        E.of("The scene", "; a wall has the movement 0.");
        for (int movement = -6; movement <= 6; movement++) {
            int due = movement == 0 ? 0 : Edges.INVALID;
            E.same("a wall with the movement " + movement, new EchoTurns().target(5, 5, movement, true), due);
        }
        E.same("targetOf(0, 2) of a wall", Edges.scene("w5*5").targetOf(0, 2), 5);
        EchoTurns x = Edges.scene("w300*9,w1*9;10/10/10/10");
        E.same("go()", x.go(), 2);
        E.sameText("after go()", Edges.text(x), "w300*9,w1*9;10/10/10/10");
    }

    private static void noTwins() {
        E.of("The scene", "Two targets never have the same distance and movement.");
        EchoTurns x = Edges.scene("t10*5-2,w20*5");
        E.same("the same as the first", x.target(10, 9, -2, false), Edges.NOT_POSSIBLE);
        E.same("the same as the last, no wall", x.target(20, 5, 0, false), Edges.NOT_POSSIBLE);
        E.same("the same as the last, a wall", x.target(20, 5, 0, true), Edges.NOT_POSSIBLE);
        E.same("another movement", x.target(10, 5, -1, false), 2);
        E.same("another sign of the movement", x.target(10, 5, 2, false), 3);
        E.same("another distance", x.target(9, 5, -2, false), 4);
        E.same("another distance of a wall", x.target(21, 5, 0, true), 5);
        x.drop(0);
        E.same("one that went is no twin", x.target(10, 5, -2, false), 5);
        E.same("of a pad", Edges.pad("t10*5-2,t10*6-2").load(), Edges.NOT_POSSIBLE);
        EchoTurns meeting = Edges.scene("t10*5+1,t12*5-1,t11*5");
        E.same("they may meet with other movements", meeting.go(), 3);
        E.sameText("where they meet", Edges.text(meeting), "t11*5+1,t11*5-1,t11*5;20");
    }

    private static void ghostOfEachTwoWalls() {
        E.of("The scene", "For each two walls with the distances a and b, a below b, there is a ghost:");
        String[] scenes = {"t10*99", "w10*99", "w10*99,t20*99,t30*99,t40*99", "w10*99,w20*99", "w20*99,t9*9,w10*99",
            "w10*99,w20*99,w30*99", "w1*20,w2*20,w3*20,w4*20,w5*20,w6*20"};
        int[] ghosts = {0, 0, 0, 1, 1, 3, 15};
        E.same("ghosts without targets", new EchoTurns().count(2), 0);
        for (int i = 0; i < scenes.length; i++) {
            EchoTurns x = Edges.scene(scenes[i]);
            E.same("ghosts of " + scenes[i], x.count(2), ghosts[i]);
            E.same("the one behind them of " + scenes[i], x.ghost(ghosts[i], 0), Edges.NOT_FOUND);
            E.same("the last one of " + scenes[i], x.ghost(ghosts[i] - 1, 0) > 0 ? 1 : 0, ghosts[i] > 0 ? 1 : 0);
        }
    }

    private static void distancesOfGhosts() {
        E.of("The scene", " it has the distance 2 * b - a, the movement 0,");
        E.same("1 and 300", Edges.scene("w1*99,w300*99").ghost(0, 0), 599);
        E.same("300 and 1", Edges.scene("w300*99,w1*99").ghost(0, 0), 599);
        E.same("1 and 2", Edges.scene("w1*99,w2*99").ghost(0, 0), 3);
        E.same("2 and 1", Edges.scene("w2*99,w1*99").ghost(0, 0), 3);
        E.same("299 and 300", Edges.scene("w299*99,w300*99").ghost(0, 0), 301);
        EchoTurns x = Edges.scene("w1*99,w300*99;50/50/50/50");
        for (int turn = 0; turn < 4; turn++) {
            E.same("599 in the turn " + turn, x.echo(turn, 2, 0), 49);
            E.same("its pitch in the turn " + turn, x.echo(turn, 2, 1), 5);
        }
        E.same("599 with the pitch 0 is true", x.fits(599, 0, 3), 1);
    }

    private static void strengthsOfGhosts() {
        E.of("The scene", " and the strength of the one times the strength of the other, divided by 200.");
        E.same("99 and 99", Edges.scene("w1*99,w300*99").ghost(0, 1), 49);
        E.same("99 and 3", Edges.scene("w1*99,w300*3").ghost(0, 1), 1);
        E.same("10 and 20", Edges.scene("w1*10,w300*20").ghost(0, 1), 1);
        E.same("50 and 48", Edges.scene("w300*50,w1*48").ghost(0, 1), 12);
    }

    private static void noGhostWithoutStrength() {
        E.of("The scene", "(A ghost with the strength 0 is none.)");
        EchoTurns x = Edges.scene("w10*99,w20*2,w40*99;10", 0, 1);
        E.same("count(2): 198 by 200 is none", x.count(2), 1);
        E.same("ghost(0, 2)", x.ghost(0, 2), 0);
        E.same("ghost(0, 3)", x.ghost(0, 3), 2);
        E.same("ghost(1, 0)", x.ghost(1, 0), Edges.NOT_FOUND);
        E.same("targetOf(0, 6)", x.targetOf(0, 6), 1);
        E.same("targetOf(1, 6)", x.targetOf(1, 6), 0);
        E.same("echo(0, 0, 2)", x.echo(0, 0, 2), 99 + 2 + 99 + 49);
        E.same("echo(0, 0, 3)", x.echo(0, 0, 3), 4);
        E.same("told(2, 0)", x.told(2, 0), 30);
        E.same("told(2, 2): 30 is no ghost", x.told(2, 2), 0);
        E.same("told(5, 2): 60 is none of 20 and 40", x.told(5, 2), 0);
        E.same("told(6, 2): 70 is one of 10 and 40", x.told(6, 2), 1);
        x.set(1, 99);
        E.same("count(10): the ghost and the wall", x.count(10), 2);
        EchoTurns lost = Edges.scene("w10*14,w20*14;10", 1, 1);
        E.same("count(9): the walls alone", lost.count(9), 2);
        E.same("count(13): the walls alone", lost.count(13), 2);
        E.same("1 times 1", Edges.scene("w10*1,w20*1").count(2), 0);
        E.same("67 times 3 is 201", Edges.scene("w10*67,w20*3").count(2), 1);
        E.same("66 times 3 is 198", Edges.scene("w10*66,w20*3").count(2), 0);
        E.same("ifWall(20, 2, 0) beside 99", Edges.scene("w10*99").ifWall(20, 2, 0), 0);
        E.same("ifWall(20, 3, 0) beside 99", Edges.scene("w10*99").ifWall(20, 3, 0), 1);
    }

    private static void oneToFourSpacings() {
        E.of("The scene", "There are 1 to 4 spacings, each 10 to 50, numbered from 0 in their order; the turns.");
        EchoTurns x = new EchoTurns();
        E.same("none", x.spacings(0, 0, 0, 0), Edges.INVALID);
        E.same("one", x.spacings(10, 0, 0, 0), 1);
        E.same("count(4) of one", x.count(4), 10);
        E.same("count(5) of one", x.count(5), Edges.NOT_FOUND);
        E.same("no turn 1", x.echo(1, 0, 0), Edges.INVALID);
        E.same("four", x.spacings(50, 10, 49, 11), 4);
        int[] wanted = {50, 10, 49, 11};
        for (int turn = 0; turn < 4; turn++) {
            E.same("the spacing " + turn, x.count(4 + turn), wanted[turn]);
            E.same("the turn " + turn, x.echo(turn, 0, 0), Edges.NOT_FOUND);
        }
        E.same("no turn 4", x.echo(4, 0, 0), Edges.INVALID);
        E.same("no turn -1", x.echo(-1, 0, 0), Edges.INVALID);
        E.same("no fifth", x.ifTurn(20, 0), Edges.LIMIT);
        E.same("9", x.spacings(9, 0, 0, 0), Edges.INVALID);
        E.same("51", x.spacings(51, 0, 0, 0), Edges.INVALID);
        E.same("a fifth in a pad", Edges.pad("t5*5;10/20/30/40/50").fault(), 16);
    }

    private static void theFirstSpacing() {
        E.of("The scene", "At first there is just one, 20.");
        EchoTurns x = new EchoTurns();
        E.same("count(3)", x.count(3), 1);
        E.same("count(4)", x.count(4), 20);
        for (int what = 5; what < 8; what++) {
            E.same("count(" + what + ")", x.count(what), Edges.NOT_FOUND);
        }
        x.target(39, 5, 0, false);
        E.same("39 is at 19", x.echo(0, 0, 0), 19);
    }

    /** The place where a target alone is heard in each of four turns. */
    private static void places(String target, String spacings, int[] wanted) {
        EchoTurns x = Edges.scene(target + ";" + spacings);
        for (int turn = 0; turn < wanted.length; turn++) {
            E.same(target + ", spacings " + spacings + ", turn " + turn, x.echo(turn, 0, 0), wanted[turn]);
            E.same("one echo alone", x.echo(turn, 1, 0), Edges.NOT_FOUND);
        }
    }

    private static void distanceInATurn() {
        E.of("The scene",
            "In the turn j a target or ghost with the distance d and the movement v is at the distance d + v * j (below 0: at 0),");
        places("t9*5-3", "50/50/50/50", new int[] {9, 6, 3, 0});
        places("t9*5-5", "50/50/50/50", new int[] {9, 4, 0, 0});
        places("t8*5-4", "10/10/10/10", new int[] {8, 4, 0, 0});
        places("t1*5-1", "20/20/20/20", new int[] {1, 0, 0, 0});
        places("t1*5-5", "11/12/13/14", new int[] {1, 0, 0, 0});
        places("t14*5-5", "20/20/20/20", new int[] {14, 9, 4, 0});
        places("t300*5+5", "50/49/48/47", new int[] {0, 11, 22, 33});
        places("t300*5-5", "50/49/48/47", new int[] {0, 1, 2, 3});
        places("t1*5", "10/11/12/13", new int[] {1, 1, 1, 1});
        places("w7*5", "10/11/12/13", new int[] {7, 7, 7, 7});
    }

    private static void remainderBySpacing() {
        E.of("The scene",
            " and its echo is told as the remainder of this by the spacing of the turn (its place), with the pitch v and its strength.");
        places("t9*5", "10/10/10/10", new int[] {9, 9, 9, 9});
        places("t10*5", "10/10/10/10", new int[] {0, 0, 0, 0});
        places("t11*5", "10/11/12/10", new int[] {1, 0, 11, 1});
        places("t49*5", "50/49/48/47", new int[] {49, 0, 1, 2});
        places("t50*5", "50/49/48/47", new int[] {0, 1, 2, 3});
        places("t300*5", "50/49/47/10", new int[] {0, 6, 18, 0});
        places("t299*5", "50/49/47/10", new int[] {49, 5, 17, 9});
        places("t19*5+1", "20/20/20/20", new int[] {19, 0, 1, 2});
        EchoTurns x = Edges.scene("t10*1-5,t11*99+5;20");
        E.same("the least pitch", x.echo(0, 0, 1), 0);
        E.same("the least strength", x.echo(0, 0, 2), 1);
        E.same("the greatest pitch", x.echo(0, 1, 1), 10);
        E.same("the greatest strength", x.echo(0, 1, 2), 99);
    }

    private static void lostEchoes() {
        E.of("The scene", "An echo with a place below BLIND is lost (it comes while the call goes out);");
        for (int blind = 0; blind <= 9; blind++) {
            EchoTurns x = Edges.scene("t" + (20 + blind) + "*9,t" + (39 + blind) + "*9+1;20", blind, 1);
            // The one is at BLIND, the other one just below it, or at 19 if BLIND is 0.
            E.same("at BLIND " + blind + ": lost turns", x.targetOf(0, 5), 0);
            E.same("below BLIND " + blind + ": lost turns", x.targetOf(1, 5), blind == 0 ? 0 : 1);
            E.same("heard at BLIND " + blind, x.echo(0, 0, 0), blind);
            E.same("heard behind it", x.echo(0, 1, 0), blind == 0 ? 19 : Edges.NOT_FOUND);
            E.same("count(8)", x.count(8), blind == 0 ? 2 : 1);
            E.same("count(9)", x.count(9), blind == 0 ? 0 : 1);
        }
        E.same("at 0, below BLIND 1", Edges.scene("t20*9", 1, 1).count(9), 1);
        E.same("below 0 is at 0, below BLIND 1", Edges.scene("t2*9-3;20/20/20", 1, 1).targetOf(0, 5), 2);
        E.same("a ghost is lost, too", Edges.scene("w14*20,w17*20", 1, 1).count(9), 1);
    }

    private static void faintEchoes() {
        E.of("The scene", " one with a strength below LOUD is too faint, and is not heard, either.");
        for (int loud = 1; loud <= 99; loud += 7) {
            EchoTurns x = Edges.scene("t5*" + loud, 0, loud);
            E.same("at LOUD " + loud, x.count(8), 1);
            E.same("at LOUD " + loud + " it is not too faint", x.count(10), 0);
            x.set(1, loud + 1);
            boolean faint = loud < 99;
            E.same("below LOUD " + (loud + 1), x.count(8), faint ? 0 : 1);
            E.same("below LOUD " + (loud + 1) + " it is too faint", x.count(10), faint ? 1 : 0);
            E.same("below LOUD there is no echo", x.echo(0, 0, 0), faint ? Edges.NOT_FOUND : 5);
        }
        EchoTurns ghost = Edges.scene("w5*20,w7*30", 0, 3);
        E.same("a ghost at LOUD", ghost.echo(0, 2, 2), 3);
        ghost.set(1, 4);
        E.same("a ghost below LOUD", ghost.echo(0, 2, 2), Edges.NOT_FOUND);
        E.same("a ghost below LOUD is too faint", ghost.count(10), 1);
    }

    private static void faintOnesAreNotLost() {
        E.of("The scene", "(What is too faint is not called lost.)");
        EchoTurns x = Edges.scene("t21*8,t22*9+1,w4*7,w3*60;20", 9, 9);
        E.same("count(9): 22 and the wall at 3", x.count(9), 2);
        E.same("targetOf(0, 5), too faint", x.targetOf(0, 5), 0);
        E.same("targetOf(1, 5), at LOUD", x.targetOf(1, 5), 1);
        x.set(1, 1);
        E.same("count(9) when all are loud, with the ghost at 5", x.count(9), 5);
        E.same("targetOf(0, 5), loud", x.targetOf(0, 5), 1);
        x.set(1, 3);
        E.same("count(9) with a faint ghost", x.count(9), 4);
        x.set(1, 61);
        E.same("count(9), all too faint", x.count(9), 0);
    }

    private static void echoesThatAreOne() {
        E.of("The scene", "Echoes of the same turn with the same place and pitch are one:");
        EchoTurns x = Edges.scene("t5*1,t15*2,t25*4+1,t24*8,t36*16+1;10/11");
        E.same("the turn 0: at 4, at 5 with two pitches, at 6", x.echo(0, 3, 0), 6);
        E.same("no fifth", x.echo(0, 4, 0), Edges.NOT_FOUND);
        E.same("at 5 with the pitch 0 of two", x.echo(0, 1, 3), 2);
        E.same("at 5 with the pitch 1 of one", x.echo(0, 2, 3), 1);
        // 5 and 15 are at 5 and 4 in the turn 1; 25 and 36, a step on, are both at 4 with the pitch 1; 24 is at 2.
        E.same("the turn 1: four", x.echo(1, 3, 0), 5);
        E.same("the turn 1: no fifth", x.echo(1, 4, 0), Edges.NOT_FOUND);
        E.same("the turn 1: at 4 with the pitch 0 of one", x.echo(1, 1, 3), 1);
        E.same("the turn 1: at 4 with the pitch 1 of two", x.echo(1, 2, 3), 2);
        E.same("count(8)", x.count(8), 8);
        EchoTurns all = Edges.scene("w10*99,w20*99,w30*99,w40*99,w50*99,w60*99;10");
        E.same("21 are one", all.count(8), 1);
        E.same("it is of 21", all.echo(0, 0, 3), 21);
        E.same("their strength", all.echo(0, 0, 2), 6 * 99 + 15 * 49);
    }

    private static void strengthTogether() {
        E.of("The scene", " its strength is theirs together, where only those count that are not too faint by themselves.");
        EchoTurns x = Edges.scene("t5*4,t15*5,t25*6,w35*7;10", 0, 1);
        E.same("all four", x.echo(0, 0, 2), 22);
        int[][] wanted = {{4, 22, 4}, {5, 18, 3}, {6, 13, 2}, {7, 7, 1}};
        for (int[] one : wanted) {
            x.set(1, one[0]);
            E.same("strength with LOUD " + one[0], x.echo(0, 0, 2), one[1]);
            E.same("of how many with LOUD " + one[0], x.echo(0, 0, 3), one[2]);
        }
        x.set(1, 8);
        E.same("together they would be loud, but each is too faint", x.echo(0, 0, 2), Edges.NOT_FOUND);
        E.same("and none is heard", x.count(8), 0);
    }
}
