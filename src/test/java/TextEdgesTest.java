/** The sentences of the promises 7 to 11, each at its edges: append, clear, fault, load, sign. */
final class TextEdgesTest {
    private static final Edges E = new Edges("TextEdgesTest");

    private TextEdgesTest() {
    }

    public static void main(String[] args) {
        appendCodes();
        appendReturns();
        appendLimit();
        clearReturns();
        faultReturns();
        loadMakesTheScene();
        loadWithoutSpacings();
        loadReturns();
        loadNotPossible();
        loadLimit();
        signPlaces();
        signCodes();
        signNotFound();
        E.end();
    }

    private static void appendCodes() {
        E.of("Promise 7", "Appends a character to the pad.");
        EchoTurns x = Edges.pad("t5*");
        E.same("fault() without it", x.fault(), 3);
        x.append('5');
        E.same("fault() with it", x.fault(), Edges.NOT_FOUND);
        E.of("Promise 7", "- `code`: the character code, 33 to 126");
        for (int code = -2; code <= 300; code++) {
            E.same("append(" + code + ")", new EchoTurns().append(code), code >= 33 && code <= 126 ? 1 : Edges.INVALID);
        }
        int[] wrong = {Edges.MIN, Edges.MAX, 65536 + 116, -65536 + 116, 256 + 116, Edges.MIN + 116};
        for (int code : wrong) {
            E.same("append(" + code + ")", new EchoTurns().append(code), Edges.INVALID);
        }
    }

    private static void appendReturns() {
        E.of("Promise 7", "Returns the length of the pad then; INVALID_ARGUMENT;");
        EchoTurns x = new EchoTurns();
        for (int length = 1; length <= 60; length++) {
            E.same("append(" + (32 + length) + ")", x.append(32 + length), length);
            E.same("count(17)", x.count(17), length);
        }
        E.same("append(127) to a full pad", x.append(127), Edges.INVALID);
        x.clear();
        E.same("append(126) behind clear()", x.append(126), 1);
        E.same("a wrong one between", x.append(127), Edges.INVALID);
        E.same("append(33) behind it", x.append(33), 2);
    }

    private static void appendLimit() {
        E.of("Promise 7", " LIMIT_REACHED if it has 60 characters.");
        EchoTurns x = Edges.pad("t".repeat(59));
        E.same("the 60th", x.append(116), 60);
        E.same("the 61st", x.append(116), Edges.LIMIT);
        E.same("once more", x.append(33), Edges.LIMIT);
        E.same("count(17)", x.count(17), 60);
    }

    private static void clearReturns() {
        E.of("Promise 8", "Empties the pad.");
        EchoTurns x = Edges.pad("w5*5");
        x.clear();
        E.same("count(17)", x.count(17), 0);
        E.same("load()", x.load(), Edges.NOT_POSSIBLE);
        E.of("Promise 8", "Returns the length that it had.");
        E.same("clear() of none", new EchoTurns().clear(), 0);
        E.same("clear() of one", Edges.pad("x").clear(), 1);
        E.same("clear() of 59", Edges.pad("x".repeat(59)).clear(), 59);
        E.same("clear() of 60", Edges.pad("x".repeat(60)).clear(), 60);
        E.same("clear() of 61, where one was refused", Edges.pad("x".repeat(61)).clear(), 60);
        EchoTurns twice = Edges.pad("xyz");
        E.same("clear()", twice.clear(), 3);
        E.same("clear() again", twice.clear(), 0);
    }

    private static void faultReturns() {
        E.of("Promise 9", "Returns the fault of the pad.");
        E.same("fault() of 't5+'", Edges.pad("t5+").fault(), 2);
        E.of("Promise 9", "Returns the fault; NOT_FOUND if it has none.");
        E.same("of an empty pad", new EchoTurns().fault(), 0);
        E.same("the least scene", Edges.pad("t1*1").fault(), Edges.NOT_FOUND);
        E.same("the first character", Edges.pad("x").fault(), 0);
        E.same("not complete", Edges.pad("t1*").fault(), 3);
        E.same("the last character", Edges.pad("t1*x").fault(), 3);
        E.same("a full pad, not complete", Edges.pad("t1*1,".repeat(12)).fault(), 60);
        E.same("a full pad, its last character", Edges.pad("t1*1,".repeat(11) + "t1*1x").fault(), 59);
        EchoTurns x = Edges.pad("t1*1");
        E.same("fault()", x.fault(), Edges.NOT_FOUND);
        x.append(',');
        E.same("a comma more", x.fault(), 5);
        x.append(',');
        E.same("another comma", x.fault(), 5);
        x.append('t');
        E.same("a t more", x.fault(), 5);
    }

    private static void loadMakesTheScene() {
        E.of("Promise 10", "Makes the scene of the pad the scene, and empties the pad;");
        EchoTurns x = Edges.scene("t1*1,t2*2,t3*3,t4*4,t5*5,t6*6;10/11/12/13", 4, 5);
        Edges.append(x, "w300*99,t300*9+1;50");
        E.same("load()", x.load(), 2);
        E.same("count(17)", x.count(17), 0);
        E.sameText("the scene", Edges.text(x), "w300*99,t300*9+1;50");
        E.same("the other targets went", x.targetOf(2, 0), Edges.INVALID);
        E.same("BLIND stays", x.count(14), 4);
        E.same("LOUD stays", x.count(15), 5);
        E.same("load() of the empty pad", x.load(), Edges.NOT_POSSIBLE);
        Edges.append(x, "t1*1-5;50/10/50/10");
        E.same("load() of more spacings", x.load(), 1);
        E.sameText("the scene", Edges.text(x), "t1*1-5;50/10/50/10");
        E.same("a later pad begins anew", x.append('t'), 1);
    }

    private static void loadWithoutSpacings() {
        E.of("Promise 10", " without spacings in it those of now stay.");
        String[] spacings = {"20", "10/50", "11/12/13", "49/48/47/46"};
        for (String all : spacings) {
            EchoTurns x = Edges.scene("t1*1;" + all);
            Edges.append(x, "w2*2");
            x.load();
            E.sameText("behind load()", Edges.text(x), "w2*2;" + all);
        }
        E.sameText("of a new object", Edges.text(Edges.scene("w2*2")), "w2*2;20");
    }

    private static void loadReturns() {
        E.of("Promise 10", "Returns how many targets there are;");
        StringBuilder text = new StringBuilder("t1*1");
        for (int targets = 1; targets <= 6; targets++) {
            E.same("load() of " + targets, Edges.pad(text.toString()).load(), targets);
            text.append(",t").append(targets + 1).append("*1");
        }
    }

    private static void loadNotPossible() {
        E.of("Promise 10", " NOT_POSSIBLE if the pad has a fault, or two targets have the same distance and movement;");
        String[] wrong = {"", "x", "t", "t5", "t5*", "t5*5,", "t5*5;", "t5*5;1", "t5*5;10/", "t0*5", "t301*5", "t5*0", "t5*100",
            "t5*5+", "t5*5+6", "w5*5+1", "t5*5;9", "t5*5;51", "t5*5;10/20/30/40/", "t5*5,t5*5", "t5*5,t5*6", "t5*5,w5*5", "w5*5,w5*6",
            "t5*5+1,t6*5,t5*9+1", "t5*5-5,t5*5-5", "t1*1,t2*1,t3*1,t4*1,t5*1,t1*1"};
        for (String text : wrong) {
            EchoTurns x = Edges.pad(text);
            E.same("load() of '" + text + "'", x.load(), Edges.NOT_POSSIBLE);
            E.same("the pad stays", x.count(17), text.length());
            E.same("no target comes", x.count(0), 0);
            E.same("no change", x.count(18), 0);
        }
        E.same("the same distance", Edges.pad("t5*5+1,t5*5-1,t5*5").load(), 3);
        E.same("the same movement", Edges.pad("t5*5+1,t6*5+1,t7*5+1").load(), 3);
        E.same("like one of the scene before", loadedTwice("t5*5,w6*6", "t5*5").count(0), 1);
    }

    private static EchoTurns loadedTwice(String first, String second) {
        EchoTurns x = Edges.scene(first);
        Edges.append(x, second);
        x.load();
        return x;
    }

    private static void loadLimit() {
        E.of("Promise 10", " LIMIT_REACHED if there are more than 6.");
        String[] many = {"t1*1,t2*1,t3*1,t4*1,t5*1,t6*1,t7*1", "t1*1,t2*1,t3*1,t4*1,t5*1,t6*1,t7*1,t8*1;10",
            "t1*1,t2*1,t3*1,t4*1,t5*1,t6*1,t7*1,t8*1,t9*1,t1*1+1,t1*1-1", "w1*1,w2*1,w3*1,w4*1,w5*1,w6*1,w7*1"};
        for (String text : many) {
            EchoTurns x = Edges.pad(text);
            E.same("load() of '" + text + "'", x.load(), Edges.LIMIT);
            E.same("the pad stays", x.count(17), text.length());
            E.same("no target comes", x.count(0), 0);
            E.same("no change", x.count(18), 0);
        }
        E.same("six", Edges.pad("t1*1,t2*1,t3*1,t4*1,t5*1,t6*1;10").load(), 6);
        E.same("six over six", loadedTwice("t1*1,t2*1,t3*1,t4*1,t5*1,t6*1", "w11*1,w12*1,w13*1,w14*1,w15*1,w16*1").count(1), 6);
    }

    private static void signPlaces() {
        E.of("Promise 11", "- `place`: from 0");
        EchoTurns x = Edges.scene("w10*20");
        E.same("sign(0)", x.sign(0), 'w');
        E.same("sign(-1)", x.sign(-1), Edges.INVALID);
        E.of("Promise 11", " INVALID_ARGUMENT if place is below 0;");
        E.same("sign(-1)", x.sign(-1), Edges.INVALID);
        E.same("sign(MIN)", x.sign(Edges.MIN), Edges.INVALID);
        E.same("sign(-1) without targets", new EchoTurns().sign(-1), Edges.INVALID);
        E.same("sign(MIN) without targets", new EchoTurns().sign(Edges.MIN), Edges.INVALID);
    }

    private static void signCodes() {
        E.of("Promise 11", "Returns a character of the scene, as it is written.");
        String text = "t300*99-5,w10*20,t209*80+1;50/10/49/31";
        EchoTurns x = Edges.scene(text);
        E.sameText("all of them", Edges.text(x), text);
        E.of("Promise 11", "Returns its code;");
        for (int place = 0; place < text.length(); place++) {
            E.same("sign(" + place + ")", x.sign(place), text.charAt(place));
        }
        x.spacings(33, 0, 0, 0);
        x.drop(2);
        String then = "t300*99-5,w10*20;33";
        for (int place = 0; place < then.length(); place++) {
            E.same("sign(" + place + ")", x.sign(place), then.charAt(place));
        }
        E.same("nothing of the longer text stays", x.sign(then.length()), Edges.NOT_FOUND);
    }

    private static void signNotFound() {
        E.of("Promise 11", " NOT_FOUND if the text is not so long, or there is no target.");
        EchoTurns x = Edges.scene("t1*1");
        E.same("sign(6), the last of 't1*1;20'", x.sign(6), '0');
        E.same("sign(7)", x.sign(7), Edges.NOT_FOUND);
        E.same("sign(100)", x.sign(100), Edges.NOT_FOUND);
        E.same("sign(MAX)", x.sign(Edges.MAX), Edges.NOT_FOUND);
        x.drop(0);
        E.same("sign(0) when the target went", x.sign(0), Edges.NOT_FOUND);
        E.same("sign(0) of a new object", new EchoTurns().sign(0), Edges.NOT_FOUND);
        E.same("sign(MAX) of a new object", new EchoTurns().sign(Edges.MAX), Edges.NOT_FOUND);
        E.same("sign(0) of a pad alone", Edges.pad("t1*1").sign(0), Edges.NOT_FOUND);
    }
}
