/** The sentences of the promises 17 to 20, each at its edges: alike, unfold, count, truth. */
final class NumberEdgesTest {
    private static final Edges E = new Edges("NumberEdgesTest");

    private NumberEdgesTest() {
    }

    public static void main(String[] args) {
        alikeWays();
        alikeReturns();
        unfoldPlaces();
        unfoldWays();
        unfoldReturns();
        unfoldNotFound();
        countWhat();
        countScene();
        countSpacings();
        countEchoes();
        countLost();
        countFaint();
        countTold();
        countSettings();
        countTexts();
        countStates();
        truthOfTold();
        E.end();
    }

    private static EchoTurns spaced(int first, int second, int third, int fourth) {
        EchoTurns x = new EchoTurns();
        x.spacings(first, second, third, fourth);
        return x;
    }

    private static void alikeWays() {
        E.of("Promise 17", "Returns the least difference of two distances that look alike.");
        E.same("by 14 and 21", spaced(14, 21, 0, 0).alike(0), 42);
        E.same("by 14 and 21", spaced(14, 21, 0, 0).alike(1), 42);
        E.of("Promise 17", "- `way`: 0: told by trying one multiple of the first spacing after the other; 1: told by the greatest common divisors of spacings");
        int[][] ways = {{Edges.MIN, -1}, {-1, -1}, {0, 36}, {1, 36}, {2, -1}, {Edges.MAX, -1}};
        for (int[] one : ways) {
            E.same("alike(" + one[0] + ")", spaced(12, 18, 0, 0).alike(one[0]), one[1]);
        }
    }

    /** The least number above 0 that each spacing divides. */
    private static int leastCommon(int[] spacings) {
        int tried = spacings[0];
        while (tried % spacings[1] != 0 || tried % spacings[2] != 0 || tried % spacings[3] != 0) {
            tried += spacings[0];
        }
        return tried;
    }

    private static void alikeReturns() {
        E.of("Promise 17", "Returns the difference (the same for both); INVALID_ARGUMENT.");
        int[][] all = {{10, 10, 10, 10}, {50, 50, 50, 50}, {10, 50, 10, 50}, {50, 10, 20, 25}, {50, 49, 48, 47}, {47, 48, 49, 50},
            {47, 49, 50, 43}, {43, 47, 49, 50}, {49, 47, 46, 45}, {37, 41, 43, 47}, {11, 13, 17, 19}, {16, 24, 36, 48}, {48, 36, 24, 16},
            {10, 11, 12, 13}, {32, 27, 25, 49}, {47, 43, 41, 49}};
        for (int[] one : all) {
            int due = leastCommon(one);
            EchoTurns x = spaced(one[0], one[1], one[2], one[3]);
            E.same("alike(0) of " + one[0] + ", " + one[1] + ", " + one[2] + ", " + one[3], x.alike(0), due);
            E.same("alike(1) of " + one[0] + ", " + one[1] + ", " + one[2] + ", " + one[3], x.alike(1), due);
        }
        for (int first = 10; first <= 50; first++) {
            E.same("alike(0) of " + first, spaced(first, 0, 0, 0).alike(0), first);
            E.same("alike(1) of " + first, spaced(first, 0, 0, 0).alike(1), first);
            for (int second = 10; second <= 50; second++) {
                int due = leastCommon(new int[] {first, second, first, second});
                E.same("alike(0) of " + first + ", " + second, spaced(first, second, 0, 0).alike(0), due);
                E.same("alike(1) of " + first + ", " + second, spaced(first, second, 0, 0).alike(1), due);
                E.same("alike(0) with a third one", spaced(first, 50, second, 0).alike(0),
                    leastCommon(new int[] {first, 50, second, second}));
                E.same("alike(1) with a third one", spaced(first, 50, second, 0).alike(1),
                    leastCommon(new int[] {first, 50, second, second}));
            }
        }
    }

    private static void unfoldPlaces() {
        E.of("Promise 18", "Returns the least distance that looks like some places.");
        E.same("at 3 by 14 and 10 by 21", spaced(14, 21, 0, 0).unfold(3, 10, 0), 31);
        E.same("at 3 by 14 and 10 by 21", spaced(14, 21, 0, 0).unfold(3, 10, 1), 31);
        E.of("Promise 18", "- `first`: a place in the turn 0, 0 to its spacing less 1");
        for (int way = 0; way < 2; way++) {
            EchoTurns x = spaced(20, 0, 0, 0);
            int[][] firsts = {{Edges.MIN, -1}, {-1, -1}, {0, 0}, {19, 19}, {20, -1}, {21, -1}, {Edges.MAX, -1}};
            for (int[] one : firsts) {
                E.same("unfold(" + one[0] + ", 0, " + way + ")", x.unfold(one[0], 0, way), one[1]);
            }
            E.same("unfold(10, 0, " + way + ") with 10 and 20", spaced(10, 20, 0, 0).unfold(10, 0, way), Edges.INVALID);
            E.same("unfold(9, 9, " + way + ") with 10 and 20", spaced(10, 20, 0, 0).unfold(9, 9, way), 9);
        }
        E.of("Promise 18", "- `second`: a place in the turn 1, likewise; it has to be 0 if there is no such turn");
        for (int way = 0; way < 2; way++) {
            EchoTurns x = spaced(10, 25, 0, 0);
            int[][] seconds = {{Edges.MIN, -1}, {-1, -1}, {0, 0}, {20, 20}, {24, -4}, {25, -1}, {26, -1}, {Edges.MAX, -1}};
            for (int[] one : seconds) {
                E.same("unfold(0, " + one[0] + ", " + way + ")", x.unfold(0, one[0], way), one[1]);
            }
            E.same("unfold(9, 24, " + way + ")", x.unfold(9, 24, way), 49);
            EchoTurns single = spaced(20, 0, 0, 0);
            for (int second : new int[] {Edges.MIN, -1, 1, 5, 19, Edges.MAX}) {
                E.same("unfold(5, " + second + ", " + way + ") of one turn", single.unfold(5, second, way), Edges.INVALID);
            }
            E.same("unfold(5, 0, " + way + ") of one turn", single.unfold(5, 0, way), 5);
        }
    }

    private static void unfoldWays() {
        E.of("Promise 18", "- `way`: 0: told by trying one distance after the other; 1: told by steps of the first spacing");
        int[][] ways = {{Edges.MIN, -1}, {-1, -1}, {0, 32}, {1, 32}, {2, -1}, {Edges.MAX, -1}};
        for (int[] one : ways) {
            E.same("unfold(2, 10, " + one[0] + ")", spaced(10, 22, 0, 0).unfold(2, 10, one[0]), one[1]);
            E.same("unfold(2, 11, " + one[0] + ")", spaced(10, 22, 0, 0).unfold(2, 11, one[0]), one[1] < 0 ? -1 : -4);
        }
    }

    private static void unfoldReturns() {
        E.of("Promise 18", "Returns the least distance, 0 or more, with these remainders in these turns");
        int[][] pairs = {{10, 50}, {50, 10}, {50, 49}, {49, 50}, {12, 18}, {18, 12}, {20, 20}, {10, 11}, {47, 43}};
        for (int[] pair : pairs) {
            for (int first = 0; first < pair[0]; first += first < 2 || first > pair[0] - 3 ? 1 : 4) {
                EchoTurns x = spaced(pair[0], pair[1], 0, 0);
                for (int second = 0; second < pair[1]; second++) {
                    int due = least(pair[0], pair[1], first, second);
                    E.same("unfold(" + first + ", " + second + ", 0) with " + pair[0] + ", " + pair[1], x.unfold(first, second, 0), due);
                    E.same("unfold(" + first + ", " + second + ", 1) with " + pair[0] + ", " + pair[1], x.unfold(first, second, 1), due);
                }
            }
        }
        E.same("a third turn does not count", spaced(10, 20, 11, 13).unfold(9, 19, 0), 19);
        E.same("a third turn does not count", spaced(10, 20, 11, 13).unfold(9, 19, 1), 19);
        E.same("no target is needed, and none does harm", Edges.scene("t5*5;10/20").unfold(7, 17, 0), 17);
        E.of("Promise 18", " (in the turn 0 alone, if there is no turn 1);");
        for (int place = 0; place < 50; place++) {
            E.same("unfold(" + place + ", 0, 0) of 50", spaced(50, 0, 0, 0).unfold(place, 0, 0), place);
            E.same("unfold(" + place + ", 0, 1) of 50", spaced(50, 0, 0, 0).unfold(place, 0, 1), place);
        }
    }

    /** The least distance by trying all that are below both spacings' product, or NOT_FOUND. */
    private static int least(int first, int second, int firstPlace, int secondPlace) {
        for (int distance = 0; distance < first * second; distance++) {
            if (distance % first == firstPlace && distance % second == secondPlace) {
                return distance;
            }
        }
        return Edges.NOT_FOUND;
    }

    private static void unfoldNotFound() {
        E.of("Promise 18", " INVALID_ARGUMENT; NOT_FOUND if there is none.");
        for (int way = 0; way < 2; way++) {
            E.same("1 and 0 with 10 and 20", spaced(10, 20, 0, 0).unfold(1, 0, way), Edges.NOT_FOUND);
            E.same("0 and 19 with 20 and 20", spaced(20, 20, 0, 0).unfold(0, 19, way), Edges.NOT_FOUND);
            E.same("49 and 48 with 50 and 50", spaced(50, 50, 0, 0).unfold(49, 48, way), Edges.NOT_FOUND);
            E.same("49 and 48 with 50 and 49", spaced(50, 49, 0, 0).unfold(49, 48, way), 2449);
            E.same("0 and 48 with 50 and 49", spaced(50, 49, 0, 0).unfold(0, 48, way), 2400);
            E.same("far above 600", spaced(50, 49, 0, 0).unfold(48, 47, way), 2448);
        }
    }

    private static void countWhat() {
        E.of("Promise 19", "Returns a number.");
        E.same("count(3) of two turns", spaced(14, 21, 0, 0).count(3), 2);
        E.of("Promise 19", "Returns the number; INVALID_ARGUMENT.");
        for (int what : new int[] {Edges.MIN, -2, -1, 19, 20, 100, Edges.MAX}) {
            E.same("count(" + what + ")", new EchoTurns().count(what), Edges.INVALID);
        }
        E.same("count(0)", new EchoTurns().count(0), 0);
        E.same("count(18)", new EchoTurns().count(18), 0);
    }

    private static void countScene() {
        E.of("Promise 19", "- `what`: 0: targets; 1: walls; 2: ghosts; 3: turns;");
        String[] scenes = {"t5*5", "w5*5", "w5*99,w6*99", "w5*99,w6*99,t7*9,t8*9,w9*9;10/20", "w1*99,w2*99,w3*99,w4*99,w5*99,w6*99;10/20/30",
            "t1*1,t2*1,t3*1,t4*1,t5*1,t6*1;10/20/30/40"};
        int[][] wanted = {{1, 0, 0, 1}, {1, 1, 0, 1}, {2, 2, 1, 1}, {5, 3, 3, 2}, {6, 6, 15, 3}, {6, 0, 0, 4}};
        for (int i = 0; i < scenes.length; i++) {
            EchoTurns x = Edges.scene(scenes[i]);
            for (int what = 0; what < 4; what++) {
                E.same("count(" + what + ") of " + scenes[i], x.count(what), wanted[i][what]);
            }
        }
    }

    private static void countSpacings() {
        E.of("Promise 19", " 4 to 7: the spacings 0 to 3, NOT_FOUND without one;");
        for (int turns = 1; turns <= 4; turns++) {
            EchoTurns x = spaced(10, turns > 1 ? 50 : 0, turns > 2 ? 11 : 0, turns > 3 ? 49 : 0);
            int[] spacings = {10, 50, 11, 49};
            for (int turn = 0; turn < 4; turn++) {
                E.same("count(" + (4 + turn) + ") of " + turns, x.count(4 + turn), turn < turns ? spacings[turn] : Edges.NOT_FOUND);
            }
        }
        EchoTurns fewer = spaced(10, 20, 30, 40);
        fewer.spacings(50, 0, 0, 0);
        E.same("count(5) when there are fewer", fewer.count(5), Edges.NOT_FOUND);
        E.same("count(7) when there are fewer", fewer.count(7), Edges.NOT_FOUND);
    }

    private static void countEchoes() {
        E.of("Promise 19", " 8: echoes that are heard in all turns together;");
        E.same("of none", new EchoTurns().count(8), 0);
        E.same("of one in one turn", Edges.scene("t5*5").count(8), 1);
        E.same("of one in four turns", Edges.scene("t5*5+5;10/20/30/40").count(8), 4);
        E.same("at one place in two turns", Edges.scene("t5*5;20/20").count(8), 2);
        E.same("of two that are one in the first turn", Edges.scene("t5*5,t25*5;20/30").count(8), 3);
        E.same("of two at one place with two pitches", Edges.scene("t5*5+1,t25*5-1;20").count(8), 2);
        E.same("with a ghost", Edges.scene("w5*99,w7*99;20").count(8), 3);
        E.same("where one is lost in one of two", Edges.scene("t20*9,t29*9;20/50", 9, 1).count(8), 3);
        E.same("where one is too faint", Edges.scene("t20*9,t29*8;20/50", 0, 9).count(8), 2);
        E.same("where all are too faint", Edges.scene("t20*9,t29*8;20/50", 0, 10).count(8), 0);
        for (int movement = -5; movement <= 5; movement++) {
            EchoTurns moving = Edges.scene("t20*9;20/30/40/50");
            moving.target(25, 9, movement, false);
            E.same("with the pitch " + movement, moving.count(8), 8);
            moving.drop(1);
            E.same("when the one with the pitch " + movement + " went", moving.count(8), 4);
            moving.drop(0);
            E.same("when all went", moving.count(8), 0);
            moving.target(25, 9, movement, false);
            E.same("when it is back", moving.count(8), 4);
            moving.spacings(20, 0, 0, 0);
            E.same("in one turn where there were four", moving.count(8), 1);
            moving.set(1, 10);
            E.same("when it is too faint", moving.count(8), 0);
        }
        EchoTurns many = Edges.scene("w1*20,w3*20,w7*20,w15*20,w31*20,w63*20;50/50/50/50");
        E.same("sixteen in each of four turns", many.count(8), 64);
    }

    private static void countLost() {
        E.of("Promise 19", " 9: lost ones of targets and ghosts that are not too faint, in all turns together;");
        E.same("of none", new EchoTurns().count(9), 0);
        E.same("BLIND 0", Edges.scene("t20*9;10/20/20/10").count(9), 0);
        E.same("in four turns", Edges.scene("t20*9;10/20/20/10", 1, 1).count(9), 4);
        E.same("in two turns of four", Edges.scene("t20*9;10/15/20/18", 1, 1).count(9), 2);
        E.same("at BLIND", Edges.scene("t21*9;10/20/20/10", 1, 1).count(9), 0);
        E.same("two at one place", Edges.scene("t20*9,t40*9", 1, 1).count(9), 2);
        E.same("a wall, a wall, and their ghost at 20", Edges.scene("w18*20,w19*20", 1, 1).count(9), 1);
        E.same("all three", Edges.scene("w20*20,w40*20", 1, 1).count(9), 3);
        E.same("the ghost too faint", Edges.scene("w20*20,w40*20", 1, 3).count(9), 2);
        E.same("the walls too faint", Edges.scene("w20*20,w40*20", 1, 21).count(9), 0);
        E.same("21 in four turns",
            Edges.scene("w10*99,w20*99,w30*99,w40*99,w50*99,w60*99;10/10/10/10", 9, 49).count(9), 84);
    }

    private static void countFaint() {
        E.of("Promise 19", " 10: targets and ghosts that are too faint;");
        E.same("of none", new EchoTurns().count(10), 0);
        EchoTurns x = Edges.scene("w10*20,w20*30,t30*3,t31*1,t32*99;10/20/30/40", 9, 1);
        int[][] wanted = {{1, 0}, {2, 1}, {3, 1}, {4, 3}, {20, 3}, {21, 4}, {30, 4}, {31, 5}, {99, 5}};
        for (int[] one : wanted) {
            x.set(1, one[0]);
            E.same("with LOUD " + one[0], x.count(10), one[1]);
        }
        E.same("21 of 21", Edges.scene("w10*98,w20*98,w30*98,w40*98,w50*98,w60*98", 0, 99).count(10), 21);
    }

    private static void countTold() {
        E.of("Promise 19", " 11: told distances; 12: phantoms; 13: targets and ghosts that are missed;");
        int[][] wanted = {{0, 0, 0}, {60, 59, 0}, {1, 0, 0}, {0, 0, 1}, {0, 0, 1}, {30, 27, 0}, {60, 58, 2}, {120, 118, 0}, {0, 0, 21}};
        EchoTurns[] scenes = {new EchoTurns(), Edges.scene("t300*9;10"), Edges.scene("t300*9;50/49"), Edges.scene("t300*9;10", 1, 1),
            Edges.scene("t300*9;10", 0, 10), Edges.scene("w20*99,w40*99"), Edges.scene("w20*99,w25*99,w300*1;20", 1, 1),
            Edges.scene("t10*9+5,t10*9-5;10"), Edges.scene("w10*98,w20*98,w30*98,w40*98,w50*98,w60*98;10/10", 0, 99)};
        // The sixth: 20, 40 and 60 are true. The seventh: 25 and the ghost 30 are told, the walls 20 and 300 are lost.
        for (int i = 0; i < scenes.length; i++) {
            E.same("count(11) of the scene " + i, scenes[i].count(11), wanted[i][0]);
            E.same("count(12) of the scene " + i, scenes[i].count(12), wanted[i][1]);
            E.same("count(13) of the scene " + i, scenes[i].count(13), wanted[i][2]);
        }
    }

    private static void countSettings() {
        E.of("Promise 19", " 14 and 15: the settings 0 and 1;");
        EchoTurns x = new EchoTurns();
        E.same("count(14)", x.count(14), 0);
        E.same("count(15)", x.count(15), 1);
        x.set(0, 9);
        x.set(1, 99);
        E.same("count(14)", x.count(14), 9);
        E.same("count(15)", x.count(15), 99);
    }

    private static void countTexts() {
        E.of("Promise 19", " 16: the length of the text of the scene, 0 without targets;");
        E.same("of none", new EchoTurns().count(16), 0);
        E.same("of none with four spacings", spaced(10, 20, 30, 40).count(16), 0);
        String[] texts = {"t1*1;20", "t10*1;20", "t100*1;20", "t9*10;20", "t99*99+5;20", "t300*99-5;20/30", "w300*99;10/20/30",
            "t1*1,w2*2;10/20/30/40", "t1*1,t2*2,t3*3,t4*4,t5*5,w300*99;20"};
        for (String text : texts) {
            EchoTurns x = Edges.scene(text);
            E.same("of " + text, x.count(16), text.length());
            for (int left = x.count(0); left > 0; left--) {
                x.drop(0);
            }
            E.same("when all went", x.count(16), 0);
        }
        E.of("Promise 19", " 17: the length of the pad;");
        E.same("at first", new EchoTurns().count(17), 0);
        E.same("of 1", Edges.pad("x").count(17), 1);
        E.same("of 60", Edges.pad("x".repeat(60)).count(17), 60);
        E.same("of 61", Edges.pad("x".repeat(61)).count(17), 60);
    }

    private static void countStates() {
        E.of("Promise 19", " 18: states in the history");
        EchoTurns x = new EchoTurns();
        E.same("at first", x.count(18), 0);
        for (int change = 1; change <= 6; change++) {
            x.set(0, change);
            E.same("behind " + change + " changes", x.count(18), change < 4 ? change : 4);
        }
        for (int left = 3; left >= -1; left--) {
            x.undo();
            E.same("behind undo()", x.count(18), left < 0 ? 0 : left);
        }
    }

    private static void truthOfTold() {
        E.of("Promise 20", "Returns how true the told distances are.");
        // The places of 299 and 300 fit 250 and 349, too, the one by the one turn, the other by the other.
        E.sameDouble("of two where four are told", Edges.scene("t299*9,t300*9;50/49").truth(), 0.5);
        E.of("Promise 20", "Returns the true ones, as a double, divided by all told ones; 1.0 without any.");
        E.sameDouble("of none", new EchoTurns().truth(), 1.0);
        E.sameDouble("of one that is lost", Edges.scene("t20*9", 1, 1).truth(), 1.0);
        E.sameDouble("of one that is too faint", Edges.scene("t20*9", 0, 10).truth(), 1.0);
        E.sameDouble("of one alone", Edges.scene("t300*9;50/49").truth(), 1.0);
        E.sameDouble("1 of 30", Edges.scene("t20*9").truth(), 1.0 / 30.0);
        E.sameDouble("1 of 60", Edges.scene("t1*9;10").truth(), 1.0 / 60.0);
        E.sameDouble("3 of 30, with a ghost", Edges.scene("w20*99,w40*99").truth(), 3.0 / 30.0);
        E.sameDouble("3 of 30, with a faint ghost", Edges.scene("w20*99,w40*99", 0, 50).truth(), 3.0 / 30.0);
        E.sameDouble("2 of 60", Edges.scene("t20*9,t21*9").truth(), 2.0 / 60.0);
        E.sameDouble("1 of 1, as 600 look alike", Edges.scene("t300*9;30/40/24/50").truth(), 1.0);
        E.sameDouble("1 of 5: 60, 180, 300, 420, 540", Edges.scene("t300*9;30/40/24").truth(), 1.0 / 5.0);
    }
}
