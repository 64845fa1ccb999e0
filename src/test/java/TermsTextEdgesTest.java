/** The sentences of the section "Texts", each at its edges. */
final class TermsTextEdgesTest {
    private static final Edges E = new Edges("TermsTextEdgesTest");
    private static final String ALL_SIGNS = "!\"#$%&'()*+,-./0123456789:;<=>?@AZ[\\]^_`astuvwxz{|}~";

    private TermsTextEdgesTest() {
    }

    public static void main(String[] args) {
        atMostSixtySigns();
        targetsAndSpacings();
        oneTarget();
        noNeedlessNull();
        firstWrongSign();
        notComplete();
        writtenScene();
        E.end();
    }

    private static void faults(Object[][] texts) {
        for (Object[] one : texts) {
            E.same("fault() of '" + one[0] + "'", Edges.pad((String) one[0]).fault(), (Integer) one[1]);
        }
    }

    /** Looks at each sign behind a text that has no fault, or only lacks something. */
    private static void next(String text, String right) {
        for (int i = 0; i < ALL_SIGNS.length(); i++) {
            char sign = ALL_SIGNS.charAt(i);
            boolean wrong = Edges.pad(text + sign).fault() == text.length();
            // A text that is not complete has its fault behind itself, where a wrong sign would have it one earlier.
            E.same("'" + sign + "' behind '" + text + "' is wrong", wrong ? 1 : 0, right.indexOf(sign) < 0 ? 1 : 0);
        }
    }

    private static void atMostSixtySigns() {
        E.of("Texts", "There is a pad of at most 60 characters, initially empty.");
        EchoTurns x = new EchoTurns();
        E.same("count(17) at first", x.count(17), 0);
        for (int length = 1; length <= 60; length++) {
            E.same("append(33)", x.append(33), length);
        }
        E.same("append(33), the 61st", x.append(33), Edges.LIMIT);
        E.same("count(17)", x.count(17), 60);
        E.same("clear()", x.clear(), 60);
        E.same("append(33) behind clear()", x.append(33), 1);
        String forty = "t111*11+1,t112*11+1,t113*11+1,t114*11+1,";
        EchoTurns whole = Edges.pad(forty + "t115*11,w77*10;10/20");
        E.same("fault() of a scene of 60", whole.fault(), Edges.NOT_FOUND);
        E.same("load() of a scene of 60", whole.load(), 6);
        E.same("its last spacing", whole.count(5), 20);
        E.same("the 60th is wrong", Edges.pad(forty + "t115*11+1;10/20/30/6").fault(), 59);
        E.same("60 that lack one more", Edges.pad(forty + "t115*11+1;10/20/30/4").fault(), 60);
        EchoTurns more = Edges.pad(forty + "t115*11+1;10/20/30/40");
        E.same("the 61st is not taken", more.count(17), 60);
        E.same("so it is lacking", more.fault(), 60);
        E.same("load() without it", more.load(), Edges.NOT_POSSIBLE);
    }

    private static void targetsAndSpacings() {
        E.of("Texts", "A scene as a text is one or more targets with \",\" between two, and then, perhaps, \";\" and 1 to 4 spacings");
        faults(new Object[][] {{"t5*5", -4}, {"t5*5,t6*5", -4}, {"t5*5,w5*5,t5*5", -4}, {"t5*5;20", -4}, {";20", 0}, {",t5*5", 0},
            {"t5*5,,", 5}, {"t5*5,;", 5}, {"t5*5,", 5}, {"t5*5;", 5}, {"t5*5;;", 5}, {"t5*5;,", 5}, {"t5*5;t", 5}, {"t5*5t", 4},
            {"t5*5/", 4}, {"t5*5;20,", 7}, {"t5*5;20;", 7}, {"t5*5;20t", 7}, {"20", 0},
            {"t5*5;9", 5}, {"t5*5;6", 5}, {"t5*5;51", 6}, {"t5*5;5", 6}, {"t5*5;50", -4}, {"t5*5;10", -4}, {"t5*5;1", 6},
            {"t5*5;100", 7}, {"t5*5;500", 7}});
        E.of("Texts", " with \"/\" between two.");
        faults(new Object[][] {{"t5*5;10/50", -4}, {"t5*5;10/50/10", -4}, {"t5*5;10/50/10/50", -4}, {"t5*5;10/50/10/50/", 16},
            {"t5*5;10/", 8}, {"t5*5;10//", 8}, {"t5*5;/", 5}, {"t5*5;10/9", 8}, {"t5*5;10/51", 9}, {"t5*5;10/20/6", 11},
            {"t5*5;10/20/30/51", 15}, {"t5*5;10/20/30/5", 15}, {"t5*5;10/20/30/400", 16}, {"t5*5;10/20/30,", 13},
            {"t5*5;10/20/30/40;", 16}, {"t5*5;10/20/30/40,", 16}});
        next("", "tw");
        next("t5*5,", "tw");
        next("t5*5;", "12345");
        next("t5*5;1", "0123456789");
        next("t5*5;5", "0");
        next("t5*5;10/20/30", "/");
        next("t5*5;10/20/30/", "12345");
        next("t5*5;10/20/30/4", "0123456789");
        next("t5*5;10/20/30/40", "");
    }

    private static void oneTarget() {
        E.of("Texts", "A target is \"t\" or \"w\" (a wall), a distance 1 to 300, \"*\", a strength 1 to 99,");
        faults(new Object[][] {{"t1*1", -4}, {"w1*1", -4}, {"t300*99", -4}, {"w300*99", -4}, {"t301*", 3}, {"w301*", 3}, {"t31*9", -4},
            {"t310*", 3}, {"t400*", 3}, {"t1000", 4}, {"t299*9", -4}, {"t0", 1}, {"t5*0", 3}, {"t5*100", 5}, {"t5*99", -4},
            {"t5*999", 5}, {"t*5", 1}, {"t5", 2}, {"t5*", 3}, {"T5*5", 0}, {"W5*5", 0}, {"x", 0}, {"5*5", 0}, {"tw", 1}});
        for (int distance = 1; distance <= 320; distance++) {
            String text = "w" + distance;
            E.same("fault() of " + text, Edges.pad(text).fault(), distance <= 300 ? text.length() : 3);
        }
        next("t", "123456789");
        next("t1", "0123456789*");
        next("t3", "0123456789*");
        next("t29", "0123456789*");
        next("t30", "0*");
        next("t31", "*");
        next("t99", "*");
        next("t100", "*");
        next("t300", "*");
        next("t5*", "123456789");
        next("t5*9", "0123456789+-,;");
        next("t5*10", "+-,;");
        next("t5*99", "+-,;");
        E.of("Texts", " and, for \"t\", perhaps \"+\" or \"-\" and a digit 1 to 5 (the movement; 0 without it).");
        faults(new Object[][] {{"t5*5+1", -4}, {"t5*5-1", -4}, {"t5*5+5", -4}, {"t5*5-5", -4}, {"t5*5+0", 5}, {"t5*5-0", 5},
            {"t5*5+6", 5}, {"t5*5-6", 5}, {"t5*5+", 5}, {"t5*5+10", 6}, {"w5*5+", 4}, {"w5*5-", 4}, {"w5*50+1", 5}, {"t5*5*", 4},
            {"t5*5--1", 5}, {"t5*5+1+1", 6}, {"t5*5+1-1", 6}, {"w5*5,t5*5+1", -4}, {"t5*5+1,w5*5+1", 11}});
        next("t5*5+", "12345");
        next("t5*5-", "12345");
        next("t5*5+1", ",;");
        next("t5*5-5", ",;");
        next("w5*5", "0123456789,;");
        next("w5*55", ",;");
        E.sameText("the movements", Edges.text(Edges.scene("t1*9+5,t2*9-5,t3*9+1,t4*9-1,t5*9,w6*9")),
            "t1*9+5,t2*9-5,t3*9+1,t4*9-1,t5*9,w6*9;20");
        E.same("the movement without it", Edges.scene("t1*9+5,t2*9").targetOf(1, 2), 5);
    }

    private static void noNeedlessNull() {
        E.of("Texts", "Numbers have no needless 0 ahead.");
        faults(new Object[][] {{"t05*5", 1}, {"w00", 1}, {"t5*05", 3}, {"t5*00", 3}, {"t5*5;010", 5}, {"t5*5;10/020", 8},
            {"t5*5+01", 5}, {"t5*5,t05", 6}, {"t10*10;10", -4}, {"t100*90;50", -4}});
    }

    private static void firstWrongSign() {
        E.of("Texts", "The fault of the pad is the position, from 0, of the first character that is wrong:");
        faults(new Object[][] {{"!", 0}, {"x5*5", 0}, {"t5*5x", 4}, {"t5x5y", 2}, {"t5*5,t5*5,w5*5+3", 14}, {"t0t0t0", 1}});
        E.same("the last of 60", Edges.pad("t1*1,".repeat(11) + "t1*1!").fault(), 59);
        E.of("Texts", " no scene, with any number of targets, begins with the characters before it and this character;");
        faults(new Object[][] {{"t1*1,".repeat(6) + "t1*1", -4}, {"t1*1,".repeat(11) + "t1*1", -4}, {"t1*1,".repeat(12), 60},
            {"t5*5,t5*5", -4}, {"t5*5,w5*5", -4}, {"t1*1,".repeat(6) + "x", 30}, {"t1*1,".repeat(7) + "t1*1;9", 40}});
        E.same("seven and a spacing have no fault, but are too many", Edges.pad("t1*1,t2*1,t3*1,t4*1,t5*1,t6*1,t7*1;50").load(),
            Edges.LIMIT);
    }

    private static void notComplete() {
        E.of("Texts", " if there is none, and the pad is not complete (also if it is empty), the length of the pad.");
        String whole = "t300*99-5,w12*1,t3*4;10/50/23/45";
        for (int length = 0; length <= whole.length(); length++) {
            // It can end behind 't300*9', 't300*99', '-5', 'w12*1', 't3*4' and each spacing.
            boolean complete = " 6 7 9 15 20 23 26 29 32 ".contains(" " + length + " ");
            String text = whole.substring(0, length);
            E.same("fault() of '" + text + "'", Edges.pad(text).fault(), complete ? Edges.NOT_FOUND : length);
            E.same("load() of '" + text + "'", Edges.pad(text).load() > 0 ? 1 : 0, complete ? 1 : 0);
        }
        E.same("fault() of a new object", new EchoTurns().fault(), 0);
        EchoTurns x = Edges.pad("t5*5");
        x.clear();
        E.same("fault() behind clear()", x.fault(), 0);
        Edges.append(x, "t5*5");
        x.load();
        E.same("fault() behind load()", x.fault(), 0);
    }

    private static void writtenScene() {
        E.of("Texts", "To write the scene: its targets by their numbers, and its spacings.");
        String[] texts = {"t1*1;10", "w1*1;50/10", "t300*99-5,w300*99,t10*10+1;49/50/11", "t9*9,t99*9,t100*9,t101*10;20/20/20/20",
            "w1*1,w9*9,w10*10,w99*99,w100*90,w300*20;19/29/39"};
        for (String text : texts) {
            EchoTurns x = Edges.scene(text);
            E.sameText("the text", Edges.text(x), text);
            E.same("count(16)", x.count(16), text.length());
            E.same("sign(" + text.length() + ")", x.sign(text.length()), Edges.NOT_FOUND);
        }
        EchoTurns x = new EchoTurns();
        E.sameText("the text without targets", Edges.text(x), "");
        x.target(10, 9, 0, false);
        E.sameText("the text with the first spacing", Edges.text(x), "t10*9;20");
        EchoTurns longest = Edges.scene("t300*99-5,t299*99-5,t298*99+5;50/49/48/47");
        longest.target(297, 99, 1, false);
        longest.target(296, 99, 2, false);
        longest.target(295, 99, -1, false);
        String all = "t300*99-5,t299*99-5,t298*99+5,t297*99+1,t296*99+2,t295*99-1;50/49/48/47";
        E.sameText("the longest text", Edges.text(longest), all);
        E.same("its length", longest.count(16), 71);
    }
}
