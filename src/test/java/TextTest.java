/** Promises 7 to 11: append, clear, fault, load, sign. */
final class TextTest {
    private static final Due DUE = new Due("TextTest");
    private static final int INVALID = -1;
    private static final int NOT_POSSIBLE = -2;
    private static final int LIMIT = -3;
    private static final int NOT_FOUND = -4;

    private TextTest() {
    }

    public static void main(String[] args) {
        promise7();
        promise8();
        promise9Complete();
        promise9Wrong();
        promise9Incomplete();
        promise10();
        promise10Errors();
        promise11();
        DUE.end();
    }

    private static void due(String call, long got, long want) {
        DUE.same(call, got, want);
    }

    private static EchoTurns with(String text) {
        EchoTurns x = new EchoTurns();
        append(x, text);
        return x;
    }

    private static void append(EchoTurns x, String text) {
        x.clear();
        for (int i = 0; i < text.length(); i++) {
            x.append(text.charAt(i));
        }
    }

    private static String textOf(EchoTurns x) {
        StringBuilder text = new StringBuilder();
        for (int code = x.sign(0); code > 0; code = x.sign(text.length())) {
            text.append((char) code);
        }
        return text.toString();
    }

    private static void promise7() {
        EchoTurns x = new EchoTurns();
        due("7: append(32)", x.append(32), INVALID);
        due("7: append(127)", x.append(127), INVALID);
        due("7: append(-1)", x.append(-1), INVALID);
        due("7: append(65536 + 40)", x.append(65536 + 40), INVALID);
        due("7: nothing came", x.count(17), 0);
        due("7: append(33)", x.append(33), 1);
        due("7: append(126)", x.append(126), 2);
        for (int length = 3; length <= 60; length++) {
            due("7: append(116)", x.append(116), length);
        }
        due("7: the 61st", x.append(116), LIMIT);
        due("7: a range is told before the limit", x.append(32), INVALID);
        due("7: still 60", x.count(17), 60);
        due("7: it is no change", x.count(18), 0);
        due("7: undo leaves the pad", x.undo(), NOT_POSSIBLE);
        due("7: undo leaves the pad", x.count(17), 60);
    }

    private static void promise8() {
        EchoTurns x = with("t5*5,");
        due("8: clear()", x.clear(), 5);
        due("8: clear() again", x.clear(), 0);
        due("8: the pad is empty", x.count(17), 0);
        due("8: the fault of an empty pad", x.fault(), 0);
        due("8: it is no change", x.count(18), 0);
        append(x, "t7*8");
        due("8: nothing of it stays", x.load(), 1);
        due("8: nothing of it stays", x.targetOf(0, 0), 7);
    }

    private static void promise9Complete() {
        String[] right = {
            "t1*1", "w1*1", "t300*99", "w300*99", "t299*9", "t30*10", "t100*90", "t9*5+1", "t9*5-5", "t9*55+5", "w99*99,t1*1",
            "t5*5;10", "t5*5;50", "t5*5;49", "w5*5;19/20/30/40", "t5*5-1;10/11", "t5*5,t5*5,t5*5,t5*5,t5*5,t5*5,t5*5,t5*5",
            "t1*1,t1*1,t1*1,t1*1,t1*1,t1*1,t1*1,t1*1,t1*1,t1*1,t1*1,t1*1"
        };
        for (String text : right) {
            due("9: fault of " + text, with(text).fault(), NOT_FOUND);
        }
    }

    private static void promise9Wrong() {
        Object[][] wrong = {
            {"x", 0}, {"5", 0}, {",", 0}, {"T5*5", 0}, {"t0", 1}, {"t*", 1}, {"t-", 1}, {"w0", 1}, {"t301*5", 3}, {"t31", -2},
            {"t310", 3}, {"t400", 3}, {"t999", 3}, {"t1000", 4}, {"t3000", 4}, {"t5+5", 2}, {"t5,", 2}, {"t5*0", 3}, {"t5**", 3},
            {"t5*100", 5}, {"t5*999", 5}, {"t5*5*", 4}, {"t5*5/", 4}, {"t5*5t", 4}, {"t5*5+0", 5}, {"t5*5+6", 5}, {"t5*5-9", 5},
            {"t5*5--", 5}, {"t5*5+11", 6}, {"t5*5+1-", 6}, {"t5*5+1/", 6}, {"w5*5+", 4}, {"w5*5-1", 4}, {"t5*5+1,w5*5+", 11},
            {"w5*5,t5*5+1", -3}, {"t5*5,,", 5}, {"t5*5,;", 5}, {"t5*5,5", 5}, {"t5*5;0", 5}, {"t5*5;6", 5}, {"t5*5;9", 5},
            {"t5*5;t", 5}, {"t5*5;;", 5}, {"t5*5;51", 6}, {"t5*5;59", 6}, {"t5*5;1/", 6}, {"t5*5;100", 7}, {"t5*5;10,", 7},
            {"t5*5;10;", 7}, {"t5*5;10//", 8}, {"t5*5;10/0", 8}, {"t5*5;10/51", 9}, {"t5*5;10/10/10/10/", 16},
            {"t5*5;10/10/10/10,", 16}, {"t5*5;10/10/10/6", 14}, {"t5*5+1;5/", 8}, {"t5*5~", 4}, {"t!", 1}
        };
        for (Object[] one : wrong) {
            int want = (Integer) one[1];
            String text = (String) one[0];
            // -2 marks texts that only lack something, -3 those that have no fault.
            want = want == -2 ? text.length() : want == -3 ? NOT_FOUND : want;
            due("9: fault of " + text, with(text).fault(), want);
        }
        EchoTurns full = with("t1*1,t1*1,t1*1,t1*1,t1*1,t1*1,t1*1,t1*1,t1*1,t1*1,t1*1,t1*1,");
        due("9: fault of a full pad", full.fault(), 60);
        due("9: the fault stays where it is", with("t5*5x,t5*5").fault(), 4);
    }

    private static void promise9Incomplete() {
        String whole = "t300*99-5,w12*1,t3*4;10/50/23/45";
        String[] complete = {"t300*9", "t300*99", "t300*99-5", "t300*99-5,w12*1", "t300*99-5,w12*1,t3*4",
            "t300*99-5,w12*1,t3*4;10", "t300*99-5,w12*1,t3*4;10/50", "t300*99-5,w12*1,t3*4;10/50/23", whole};
        for (int length = 0; length <= whole.length(); length++) {
            String text = whole.substring(0, length);
            int want = length;
            for (String one : complete) {
                want = one.equals(text) ? NOT_FOUND : want;
            }
            due("9: fault of " + text, with(text).fault(), want);
        }
        EchoTurns x = with(whole);
        x.fault();
        due("9: the pad stays", x.count(17), whole.length());
        due("9: nothing is changed", x.count(18), 0);
        due("9: twice the same", x.fault(), NOT_FOUND);
    }

    private static void promise10() {
        EchoTurns x = with("t300*99-5,w12*1,t3*4;10/50/23/45");
        due("10: load()", x.load(), 3);
        due("10: the pad is empty", x.count(17), 0);
        due("10: a change", x.count(18), 1);
        due("10: as it is written", textOf(x).equals("t300*99-5,w12*1,t3*4;10/50/23/45") ? 1 : 0, 1);
        due("10: walls", x.count(1), 1);
        due("10: movement", x.targetOf(0, 2), 0);
        append(x, "t7*10+3");
        due("10: without spacings", x.load(), 1);
        due("10: those of now stay", textOf(x).equals("t7*10+3;10/50/23/45") ? 1 : 0, 1);
        append(x, "w8*9;33");
        x.set(0, 3);
        due("10: fewer spacings", x.load(), 1);
        due("10: fewer spacings", textOf(x).equals("w8*9;33") ? 1 : 0, 1);
        due("10: settings stay", x.count(14), 3);
        due("10: undo()", x.undo(), 3);
        due("10: the scene before", textOf(x).equals("t7*10+3;10/50/23/45") ? 1 : 0, 1);
        due("10: the pad stays empty", x.count(17), 0);
        append(x, "t1*1,t2*1,t3*1,t4*1,t5*1,w6*1");
        due("10: six", x.load(), 6);
        append(x, "t5*1,t5*1+1,t5*1-1");
        due("10: the same distance with other movements", x.load(), 3);
    }

    private static void promise10Errors() {
        EchoTurns x = with("t9*9");
        x.load();
        String[] bad = {"", "t", "t5*5,", "t5*5;", "t5*5;1", "x", "t301*1", "t5*5,t5*6", "t5*5,w5*5", "w5*5,w7*7,w5*1",
            "t5*5+2,t6*5,t5*7+2", "t1*1,t2*1,t3*1,t4*1,t5*1,t6*1,t7*1,t7*1", "t1*1,t2*1,t3*1,t4*1,t5*1,t6*1,t1*1",
            "t1*1,t2*1,t3*1,t4*1,t5*1,t6*1,t7*1,"};
        for (String text : bad) {
            append(x, text);
            due("10: load() of " + text, x.load(), NOT_POSSIBLE);
            due("10: the pad stays", x.count(17), text.length());
        }
        String[] many = {"t1*1,t2*1,t3*1,t4*1,t5*1,t6*1,t7*1", "t1*1,t2*1,t3*1,t4*1,t5*1,t6*1,t7*1,t8*1,t9*1,w1*1+",
            "t1*1,t2*1,t3*1,t4*1,t5*1,t6*1,t7*1,t8*1,t9*1,t1*1+1;50"};
        for (String text : many) {
            append(x, text);
            due("10: load() of " + text, x.load(), text.endsWith("+") ? NOT_POSSIBLE : LIMIT);
            due("10: the pad stays", x.count(17), text.length());
        }
        due("10: nothing is changed", textOf(x).equals("t9*9;20") ? 1 : 0, 1);
        due("10: no error is a change", x.count(18), 1);
    }

    private static void promise11() {
        EchoTurns x = new EchoTurns();
        due("11: sign(0) without targets", x.sign(0), NOT_FOUND);
        due("11: sign(-1) without targets", x.sign(-1), INVALID);
        x.target(300, 99, -5, false);
        x.target(10, 10, 0, true);
        x.target(101, 7, 5, false);
        String text = "t300*99-5,w10*10,t101*7+5;20";
        for (int place = 0; place < text.length(); place++) {
            due("11: sign(" + place + ")", x.sign(place), text.charAt(place));
        }
        due("11: count(16)", x.count(16), text.length());
        due("11: behind the text", x.sign(text.length()), NOT_FOUND);
        due("11: far behind the text", x.sign(Integer.MAX_VALUE), NOT_FOUND);
        due("11: ahead of the text", x.sign(-1), INVALID);
        due("11: ahead of the text", x.sign(Integer.MIN_VALUE), INVALID);
        x.target(100, 9, 0, false);
        x.target(99, 90, 0, true);
        due("11: 100 and 99", textOf(x).equals("t300*99-5,w10*10,t101*7+5,t100*9,w99*90;20") ? 1 : 0, 1);
        x.undo();
        x.undo();
        x.drop(0);
        x.spacings(50, 10, 31, 49);
        due("11: other spacings", textOf(x).equals("w10*10,t101*7+5;50/10/31/49") ? 1 : 0, 1);
        for (int i = 0; i < 4; i++) {
            x.target(297 + i, 99, -1 - i, false);
        }
        x.drop(0);
        x.drop(0);
        x.target(295, 88, 1, false);
        x.target(296, 90, 2, false);
        String longest = "t297*99-1,t298*99-2,t299*99-3,t300*99-4,t295*88+1,t296*90+2;50/10/31/49";
        due("11: the longest", textOf(x).equals(longest) ? 1 : 0, 1);
        due("11: the longest", x.count(16), longest.length());
        for (int i = 0; i < 6; i++) {
            x.drop(0);
        }
        due("11: all went", x.sign(0), NOT_FOUND);
    }
}
