/** The sentences of the sections "Told distances" and "Settings", each at its edges. */
final class TermsToldEdgesTest {
    private static final Edges E = new Edges("TermsToldEdgesTest");

    private TermsToldEdgesTest() {
    }

    public static void main(String[] args) {
        distancesThatFit();
        placesThatFit();
        blindPlaces();
        toldOnes();
        orderOfToldOnes();
        trueOnes();
        phantoms();
        missedOnes();
        alikeDistances();
        settings();
        E.end();
    }

    private static void distancesThatFit() {
        E.of("Told distances", "A distance d, 1 to 600, with a pitch v, -5 to 5, fits the turn j,");
        EchoTurns one = Edges.scene("t1*9;10");
        E.same("fits(1, 0, 0)", one.fits(1, 0, 0), 1);
        E.same("fits(0, 0, 0)", one.fits(0, 0, 0), Edges.INVALID);
        E.same("the first that is told of 1", one.told(0, 0), 1);
        E.same("the last that is told of 1", one.told(59, 0), 591);
        E.same("none behind it", one.told(60, 0), Edges.NOT_FOUND);
        EchoTurns ten = Edges.scene("t10*9;10");
        E.same("fits(600, 0, 0)", ten.fits(600, 0, 0), 1);
        E.same("fits(601, 0, 0)", ten.fits(601, 0, 0), Edges.INVALID);
        E.same("0 is not told", ten.told(0, 0), 10);
        E.same("600 is told", ten.told(59, 0), 600);
        E.same("610 is not told", ten.told(60, 0), Edges.NOT_FOUND);
        E.same("count(11)", ten.count(11), 60);
        for (int pitch = -5; pitch <= 5; pitch += 5) {
            String movement = pitch < 0 ? "-5" : pitch > 0 ? "+5" : "";
            EchoTurns x = Edges.scene("t10*9" + movement + ";10");
            for (int tried = -5; tried <= 5; tried++) {
                E.same("fits(600, " + tried + ", 0)", x.fits(600, tried, 0), tried == pitch ? 1 : 0);
            }
            E.same("fits(600, -6, 0)", x.fits(600, -6, 0), Edges.INVALID);
            E.same("fits(600, 6, 0)", x.fits(600, 6, 0), Edges.INVALID);
            E.same("told(59, 1)", x.told(59, 1), pitch + 5);
            E.same("count(11)", x.count(11), 60);
        }
    }

    private static void placesThatFit() {
        E.of("Told distances", " if an echo is heard in it with the place of d + v * j (below 0: of 0) and the pitch v;");
        EchoTurns nearing = Edges.scene("t3*9-5;10/10/10");
        int[][] near = {{3, -5, 0, 1}, {13, -5, 0, 1}, {2, -5, 0, 0}, {4, -5, 0, 0}, {3, -4, 0, 0},
            {1, -5, 1, 1}, {4, -5, 1, 1}, {5, -5, 1, 1}, {6, -5, 1, 0}, {14, -5, 1, 0}, {15, -5, 1, 1}, {1, -4, 1, 0},
            {9, -5, 2, 1}, {10, -5, 2, 1}, {11, -5, 2, 0}, {20, -5, 2, 1}, {600, -5, 2, 1}, {599, -5, 2, 0}};
        for (int[] it : near) {
            E.same("3 with -5: fits(" + it[0] + ", " + it[1] + ", " + it[2] + ")", nearing.fits(it[0], it[1], it[2]), it[3]);
        }
        EchoTurns leaving = Edges.scene("t3*9+5;10/10/10/50");
        int[][] far = {{3, 5, 0, 1}, {3, 5, 1, 1}, {8, 5, 1, 0}, {8, 0, 1, 0}, {593, 5, 1, 1}, {598, 5, 1, 0}, {600, 5, 1, 0},
            {593, 5, 2, 1}, {3, 5, 3, 1}, {53, 5, 3, 1}, {553, 5, 3, 1}, {600, 5, 3, 0}};
        for (int[] it : far) {
            E.same("3 with +5: fits(" + it[0] + ", " + it[1] + ", " + it[2] + ")", leaving.fits(it[0], it[1], it[2]), it[3]);
        }
        E.same("600 + 15 is at 15", Edges.scene("t50*9+5;10/10/10/50").fits(600, 5, 3), 1);
        EchoTurns faint = Edges.scene("t3*9;10", 0, 10);
        E.same("what is not heard", faint.fits(3, 0, 0), 0);
        faint.set(1, 9);
        E.same("what is heard just so", faint.fits(3, 0, 0), 1);
    }

    private static void blindPlaces() {
        E.of("Told distances", "it is blind in this turn, if this place is below BLIND.");
        EchoTurns x = Edges.scene("t8*9;10/10", 4, 1);
        int[][] wanted = {{3, 0, 2}, {4, 0, 0}, {7, 0, 0}, {8, 0, 1}, {9, 0, 0}, {10, 0, 2}, {13, 0, 2}, {14, 0, 0}, {18, 0, 1},
            {600, 0, 2}, {598, 0, 1}, {3, 5, 2}, {4, 5, 0}};
        for (int[] one : wanted) {
            E.same("BLIND 4: fits(" + one[0] + ", " + one[1] + ", 0)", x.fits(one[0], one[1], 0), one[2]);
        }
        E.same("below 0 it is at 0", x.fits(1, -5, 1), 2);
        E.same("5 - 2 is at 3", x.fits(5, -2, 1), 2);
        E.same("5 - 1 is at 4", x.fits(5, -1, 1), 0);
        E.same("9 + 1 is at 0", x.fits(9, 1, 1), 2);
        x.set(0, 0);
        E.same("BLIND 0: at 0", x.fits(10, 0, 0), 0);
        E.same("BLIND 0: below 0", x.fits(1, -5, 1), 0);
        x.set(0, 1);
        E.same("BLIND 1: at 0", x.fits(10, 0, 0), 2);
        E.same("BLIND 1: at 1", x.fits(11, 0, 0), 0);
        x.set(0, 8);
        E.same("BLIND 8: at 8, which is heard", x.fits(8, 0, 0), 1);
        x.set(0, 9);
        E.same("BLIND 9: at 8, which is lost", x.fits(8, 0, 0), 2);
        E.same("BLIND 9: at 9", x.fits(9, 0, 0), 0);
        E.same("blind without any target", scene().fits(22, 0, 0), 2);
    }

    private static EchoTurns scene() {
        EchoTurns x = new EchoTurns();
        x.set(0, 9);
        return x;
    }

    private static void toldOnes() {
        E.of("Told distances", "It is told, if it fits or is blind in each turn, and fits at least one of them.");
        // 5 by 10 and 3 by 11 are heard; less than 3 by either one is blind.
        EchoTurns x = Edges.scene("t25*9;10/11", 3, 1);
        int[][] wanted = {{25, 2}, {35, 1}, {45, 1}, {55, 1}, {80, 1}, {91, 1}, {102, 1}, {135, 2}};
        for (int place = 0; place < wanted.length; place++) {
            E.same("told(" + place + ", 0)", x.told(place, 0), wanted[place][0]);
            E.same("told(" + place + ", 3)", x.told(place, 3), wanted[place][1]);
        }
        // 5 and 4, 3 and 3, 1 and 0 by 10 and 11: one turn that does not fit rules out, and blind in both is not told.
        E.same("count(11)", x.count(11), 38);
        E.same("told(37, 0)", x.told(37, 0), 595);
        E.same("told(38, 0)", x.told(38, 0), Edges.NOT_FOUND);
        EchoTurns blind = Edges.scene("t20*9;10/20", 9, 1);
        E.same("blind in each turn", blind.count(11), 0);
        E.same("blind in each turn", blind.targetOf(0, 4), 0);
        E.same("blind in each turn", blind.told(0, 0), Edges.NOT_FOUND);
        E.same("without targets", scene().count(11), 0);
        EchoTurns four = Edges.scene("t1*9;10/10/10/50", 0, 1);
        E.same("fits four turns", four.told(0, 3), 4);
        E.same("what only the last turn rules out is not told", four.told(1, 0), 51);
        EchoTurns once = Edges.scene("t29*9;10/30/29/15", 9, 1);
        // 29 is at 9, 29, 0 and 14: lost in one turn, heard in three.
        E.same("fits three turns", once.told(0, 3), 3);
        E.same("lost in one", once.targetOf(0, 5), 1);
        E.same("the first told", once.told(0, 0), 29);
        EchoTurns pitches = Edges.scene("t10*9-5,t11*9+5;10/15");
        E.same("10 with -5 fits both turns", pitches.told(0, 0), 10);
        E.same("11 with +5 fits both turns", pitches.told(1, 0), 11);
    }

    private static void orderOfToldOnes() {
        E.of("Told distances", "Told ones are put in an order: by the distance, of the same distance by the pitch.");
        EchoTurns x = Edges.scene("t7*9+5,t7*9,t2*9+1,t7*9-5,t10*9-5,t1*9+5;10");
        int[][] wanted = {{1, 10}, {2, 6}, {7, 0}, {7, 5}, {7, 10}, {10, 0}, {11, 10}, {12, 6}, {17, 0}};
        for (int place = 0; place < wanted.length; place++) {
            E.same("told(" + place + ", 0)", x.told(place, 0), wanted[place][0]);
            E.same("told(" + place + ", 1)", x.told(place, 1), wanted[place][1]);
        }
        E.same("the last", x.told(359, 0), 600);
        E.same("the last", x.told(359, 1), 0);
        E.same("none behind the last", x.told(360, 0), Edges.NOT_FOUND);
    }

    private static void trueOnes() {
        E.of("Told distances",
            "A told one is true, if there is a target or a ghost with this distance and movement (faint or not);");
        EchoTurns targets = Edges.scene("t10*1,t20*9,t30*8+1;10", 0, 9);
        int[] ones = {1, 1, 0, 0};
        for (int place = 0; place < ones.length; place++) {
            E.same("told(" + place + ", 2)", targets.told(place, 2), ones[place]);
        }
        E.same("a target that is too faint, but told", targets.targetOf(0, 4), 1);
        E.same("phantoms of 60", targets.count(12), 58);
        EchoTurns ghosts = Edges.scene("w10*20,w20*20;10", 0, 3);
        E.same("the ghost at 30 is too faint", ghosts.count(10), 1);
        E.same("told(2, 2)", ghosts.told(2, 2), 1);
        E.same("told(3, 2)", ghosts.told(3, 2), 0);
        E.same("phantoms of 60", ghosts.count(12), 57);
        EchoTurns farthest = Edges.scene("w1*99,w300*99;10");
        // 1, 300 and 599 sound at 1, 0 and 9.
        E.same("the ghost at 599 is told", farthest.told(178, 0), 599);
        E.same("the ghost at 599 is true", farthest.told(178, 2), 1);
        E.same("600 is told", farthest.told(179, 0), 600);
        E.same("600 is a phantom", farthest.told(179, 2), 0);
        EchoTurns same = Edges.scene("w10*99,w20*99,t30*9;10");
        E.same("a target and a ghost at 30 are one told one", same.count(11) - same.count(12), 3);
    }

    private static void phantoms() {
        E.of("Told distances", " otherwise it is a phantom.");
        EchoTurns x = Edges.scene("t10*9+1,t20*9;10");
        int[][] wanted = {{10, 5, 0}, {10, 6, 1}, {20, 5, 1}, {20, 6, 0}, {30, 5, 0}, {30, 6, 0}};
        for (int place = 0; place < wanted.length; place++) {
            E.same("told(" + place + ", 0)", x.told(place, 0), wanted[place][0]);
            E.same("told(" + place + ", 1)", x.told(place, 1), wanted[place][1]);
            E.same("told(" + place + ", 2)", x.told(place, 2), wanted[place][2]);
        }
        E.same("count(12)", x.count(12), 118);
        E.same("no phantoms of none", new EchoTurns().count(12), 0);
        E.same("no phantom", Edges.scene("t300*9;50/49").count(12), 0);
    }

    private static void missedOnes() {
        E.of("Told distances", "A target or ghost that is not told is missed.");
        E.same("none of none", new EchoTurns().count(13), 0);
        E.same("lost in the only turn", Edges.scene("t21*9,t35*9", 2, 1).count(13), 1);
        E.same("just not lost", Edges.scene("t22*9,t35*9", 2, 1).count(13), 0);
        E.same("lost in one of two", Edges.scene("t21*9,t35*9;20/30", 2, 1).count(13), 0);
        E.same("lost in two of two", Edges.scene("t21*9,t35*9;20/10", 2, 1).count(13), 1);
        E.same("too faint", Edges.scene("t21*9,t35*8,t36*7", 0, 9).count(13), 2);
        E.same("too faint, and told by another one", Edges.scene("t21*9,t41*8", 0, 9).count(13), 0);
        EchoTurns ghost = Edges.scene("w15*20,w18*20", 2, 1);
        E.same("the ghost at 21", ghost.count(13), 1);
        E.same("ghost(0, 4)", ghost.ghost(0, 4), 0);
        ghost.set(0, 1);
        E.same("the ghost is heard", ghost.count(13), 0);
        E.same("ghost(0, 4)", ghost.ghost(0, 4), 1);
        ghost.set(1, 3);
        E.same("the ghost is too faint", ghost.count(13), 1);
        ghost.set(1, 21);
        E.same("all are", ghost.count(13), 3);
        EchoTurns equal = Edges.scene("w10*14,w30*30,w20*15", 0, 20);
        // Ghosts at 50, 30 and 40 with the strengths 2, 1 and 2; 10 sounds for 30 and 50, and 0 does not.
        E.same("each for itself: 20 and the ghost at 40", equal.count(13), 2);
    }

    private static void alikeDistances() {
        E.of("Told distances", "Two distances look alike, if their remainders by each of the spacings are the same.");
        EchoTurns x = Edges.scene("t5*9;10/15");
        E.same("alike(0)", x.alike(0), 30);
        E.same("alike(1)", x.alike(1), 30);
        int[][] wanted = {{5, 1, 1}, {15, 1, 0}, {20, 0, 1}, {25, 1, 0}, {35, 1, 1}, {34, 0, 0}, {36, 0, 0}};
        for (int[] one : wanted) {
            E.same("fits(" + one[0] + ", 0, 0)", x.fits(one[0], 0, 0), one[1]);
            E.same("fits(" + one[0] + ", 0, 1)", x.fits(one[0], 0, 1), one[2]);
        }
        E.same("the one behind 5 that is told", x.told(1, 0), 35);
        E.same("by one spacing alone", Edges.scene("t5*9;10").alike(0), 10);
        E.same("each of four", Edges.scene("t5*9;10/15/10/49").alike(1), 1470);
    }

    private static void settings() {
        E.of("Settings", "(In parentheses: range; first value.) BLIND (0 to 9; 0), LOUD (1 to 99; 1).");
        E.same("BLIND at first", new EchoTurns().count(14), 0);
        E.same("LOUD at first", new EchoTurns().count(15), 1);
        for (int value = -3; value <= 102; value++) {
            EchoTurns blind = new EchoTurns();
            boolean isBlind = value >= 0 && value <= 9;
            E.same("set(0, " + value + ")", blind.set(EchoTurns.BLIND, value), isBlind ? 0 : Edges.INVALID);
            E.same("count(14)", blind.count(14), isBlind ? value : 0);
            E.same("count(15)", blind.count(15), 1);
            EchoTurns loud = new EchoTurns();
            boolean isLoud = value >= 1 && value <= 99;
            E.same("set(1, " + value + ")", loud.set(EchoTurns.LOUD, value), isLoud ? 1 : Edges.INVALID);
            E.same("count(15)", loud.count(15), isLoud ? value : 1);
            E.same("count(14)", loud.count(14), 0);
        }
    }
}
