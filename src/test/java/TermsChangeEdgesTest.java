import java.util.ArrayList;
import java.util.LinkedHashMap;
import java.util.List;
import java.util.Map;

/** The sentences of the section "Changes and errors", each at its edges, and how long an object is used. */
final class TermsChangeEdgesTest {
    private static final Edges E = new Edges("TermsChangeEdgesTest");
    private static final int MOST_CALLS = 512;

    /** A call that is tried on an object. */
    private interface Call {
        int on(EchoTurns x);
    }

    private TermsChangeEdgesTest() {
    }

    public static void main(String[] args) {
        atMost512Calls();
        theChanges();
        noOtherChanges();
        atMostFourStates();
        everythingBefore();
        alsoIfNothingIsDifferent();
        theOldestIsDropped();
        undoAndChangesInTurn();
        orderOfErrors();
        noSuchTargetOrTurn();
        errorsChangeNothing();
        looksChangeNothing();
        constants();
        E.end();
    }

    private static void atMost512Calls() {
        E.of("What it is", "An object is used for at most 512 calls after it has been made; what later calls answer is free.");
        EchoTurns changed = new EchoTurns();
        changed.target(150, 9, 0, true);
        for (int call = 2; call <= 510; call++) {
            E.same("call " + call + ": set(0, " + call % 10 + ")", changed.set(0, call % 10), call == 2 ? 0 : (call - 1) % 10);
        }
        E.same("call 511: undo()", changed.undo(), 3);
        E.same("call 512: count(14)", changed.count(14), 9);
        EchoTurns moved = Edges.scene("t300*9-1");
        for (int call = 8; call <= 307; call++) {
            E.same("go()", moved.go(), call < 307 ? 1 : 0);
        }
        EchoTurns padded = new EchoTurns();
        for (int call = 1; call <= MOST_CALLS - 1; call++) {
            E.same("call " + call + ": append(116)", padded.append(116), call <= 60 ? call : Edges.LIMIT);
        }
        E.same("call 512: clear()", padded.clear(), 60);
        EchoTurns looked = Edges.scene("w10*99,w25*98,w41*97,t50*9+1,t60*9-1,t70*9-2;20/21/22");
        int best = looked.bestTurn();
        for (int call = 58; call <= MOST_CALLS; call++) {
            E.same("bestTurn() again", looked.bestTurn(), best);
        }
    }

    /** Two targets, three spacings, a snapshot of another scene, a scene in the pad. */
    private static EchoTurns middle() {
        EchoTurns x = Edges.scene("w30*40,t40*20+2;30/31/32");
        x.save();
        x.target(50, 60, -1, false);
        x.set(0, 3);
        Edges.append(x, "w9*9,t8*8-1;44");
        return x;
    }

    /** Six targets, four spacings, four states, a pad that is full and has a fault. */
    private static EchoTurns full() {
        EchoTurns x = Edges.scene("w30*40,w40*50,t299*1+3;10/50/20/30");
        x.target(3, 99, -1, false);
        x.target(60, 61, 0, true);
        x.target(61, 62, 0, false);
        x.set(1, 2);
        Edges.append(x, "t1*1,".repeat(12));
        return x;
    }

    private static EchoTurns empty() {
        return new EchoTurns();
    }

    private static void theChanges() {
        E.of("Changes and errors", "The changes are the calls of target, drop, go, spacings, set, load and restore that return no error.");
        Map<String, Call> changes = new LinkedHashMap<>();
        changes.put("target(70, 5, 5, false)", x -> x.target(70, 5, 5, false));
        changes.put("drop(1)", x -> x.drop(1));
        changes.put("go()", x -> x.go());
        changes.put("spacings(20, 0, 0, 0)", x -> x.spacings(20, 0, 0, 0));
        changes.put("set(1, 5)", x -> x.set(1, 5));
        changes.put("load()", x -> x.load());
        changes.put("restore()", x -> x.restore());
        for (Map.Entry<String, Call> change : changes.entrySet()) {
            EchoTurns x = middle();
            String before = Edges.state(x);
            int states = x.count(18);
            E.same(change.getKey() + " returns no error", change.getValue().on(x) >= 0 ? 1 : 0, 1);
            E.same("count(18) behind " + change.getKey(), x.count(18), states + 1);
            E.same(change.getKey() + " changes the scene", Edges.state(x).equals(before) ? 1 : 0, 0);
            E.same("undo() behind " + change.getKey(), x.undo(), states);
            E.sameText("the state behind undo() of " + change.getKey(), Edges.state(x), before);
        }
    }

    private static void noOtherChanges() {
        E.of("Changes and errors", "The changes are the calls of target, drop, go, spacings, set, load and restore that return no error.");
        Map<String, Call> others = new LinkedHashMap<>();
        others.put("append(57)", x -> x.append(57));
        others.put("clear()", x -> x.clear());
        others.put("save()", x -> x.save());
        others.put("target(40, 5, 2, false)", x -> x.target(40, 5, 2, false));
        others.put("drop(3)", x -> x.drop(3));
        others.put("spacings(9, 0, 0, 0)", x -> x.spacings(9, 0, 0, 0));
        others.put("set(0, 10)", x -> x.set(0, 10));
        for (Map.Entry<String, Call> other : others.entrySet()) {
            EchoTurns x = middle();
            String before = Edges.state(x);
            int states = x.count(18);
            other.getValue().on(x);
            E.same("count(18) behind " + other.getKey(), x.count(18), states);
            E.sameText("the state behind " + other.getKey(), Edges.state(x), before);
        }
        E.same("undo() is none, count(18)", undone().count(18), 2);
        E.same("load() with a fault", Edges.pad("t5*").load(), Edges.NOT_POSSIBLE);
        E.same("restore() without a snapshot", full().restore(), Edges.NOT_POSSIBLE);
    }

    private static EchoTurns undone() {
        EchoTurns x = middle();
        x.undo();
        return x;
    }

    private static void atMostFourStates() {
        E.of("Changes and errors", "A history of at most 4 states is kept:");
        EchoTurns x = new EchoTurns();
        E.same("count(18) at first", x.count(18), 0);
        for (int change = 1; change <= 9; change++) {
            x.go();
            E.same("count(18) behind " + change + " changes", x.count(18), change < 4 ? change : 4);
        }
        for (int left = 3; left >= 0; left--) {
            E.same("undo()", x.undo(), left);
        }
        E.same("undo() of none", x.undo(), Edges.NOT_POSSIBLE);
        E.same("count(18)", x.count(18), 0);
    }

    private static void everythingBefore() {
        E.of("Changes and errors", " each change records everything before it but the pad and the snapshot");
        EchoTurns x = middle();
        String scene = Edges.state(x);
        x.load();
        x.save();
        Edges.append(x, "w7*7");
        x.undo();
        E.sameText("targets, spacings and settings", Edges.state(x), scene);
        E.same("the pad stays as it is", x.count(17), 4);
        E.same("the snapshot stays as it is", x.restore(), 2);
        E.same("its spacing", x.count(4), 44);
        E.same("its setting", x.count(14), 3);
        E.same("the pad is not of the snapshot", x.load(), 1);
        E.same("the pad's wall", x.targetOf(0, 0), 7);
        EchoTurns settings = new EchoTurns();
        settings.set(0, 4);
        settings.set(1, 50);
        settings.spacings(10, 11, 12, 13);
        settings.target(5, 6, -1, false);
        settings.undo();
        settings.undo();
        E.sameText("behind two of four", Edges.state(settings), " 1 20 -4 -4 -4 4 50");
        settings.undo();
        E.sameText("behind three of four", Edges.state(settings), " 1 20 -4 -4 -4 4 1");
        settings.undo();
        E.sameText("behind four of four", Edges.state(settings), Edges.state(new EchoTurns()));
    }

    private static void alsoIfNothingIsDifferent() {
        E.of("Changes and errors", "(also if nothing is different then)");
        Map<String, Call> changes = new LinkedHashMap<>();
        changes.put("go() of those that stand still", x -> x.go());
        changes.put("spacings(20, 30, 0, 0)", x -> x.spacings(20, 30, 0, 0));
        changes.put("set(0, 0)", x -> x.set(0, 0));
        changes.put("set(1, 1)", x -> x.set(1, 1));
        changes.put("load()", x -> x.load());
        changes.put("restore()", x -> x.restore());
        for (Map.Entry<String, Call> change : changes.entrySet()) {
            EchoTurns x = Edges.scene("w10*20,t11*9;20/30");
            x.save();
            Edges.append(x, "w10*20,t11*9");
            String before = Edges.state(x);
            change.getValue().on(x);
            E.same("count(18) behind " + change.getKey(), x.count(18), 2);
            E.sameText("the state behind " + change.getKey(), Edges.state(x), before);
        }
        EchoTurns none = new EchoTurns();
        E.same("go() of none", none.go(), 0);
        E.same("count(18)", none.count(18), 1);
        E.same("undo()", none.undo(), 0);
    }

    private static void theOldestIsDropped() {
        E.of("Changes and errors", " and if there are 5 states then, the oldest one is dropped.");
        for (int changes = 1; changes <= 12; changes++) {
            EchoTurns x = new EchoTurns();
            for (int change = 1; change <= changes; change++) {
                x.set(1, change + 1);
            }
            int kept = changes < 4 ? changes : 4;
            for (int undone = 1; undone <= kept; undone++) {
                E.same("undo() " + undone + " of " + changes + " changes", x.undo(), kept - undone);
                E.same("LOUD then", x.count(15), changes + 1 - undone);
            }
            E.same("undo() of no more", x.undo(), Edges.NOT_POSSIBLE);
            E.same("LOUD stays", x.count(15), changes + 1 - kept);
        }
    }

    private static void undoAndChangesInTurn() {
        E.of("Changes and errors", " and if there are 5 states then, the oldest one is dropped.");
        EchoTurns x = new EchoTurns();
        List<Integer> states = new ArrayList<>();
        int loud = 1;
        String steps = "ccucccuuccccccuuuccuuuucccccuccuuccccu";
        for (int i = 0; i < steps.length(); i++) {
            if (steps.charAt(i) == 'c') {
                states.add(loud);
                loud = 10 + i;
                x.set(1, loud);
            } else if (states.isEmpty()) {
                E.same("undo() of step " + i, x.undo(), Edges.NOT_POSSIBLE);
            } else {
                loud = states.remove(states.size() - 1);
                E.same("undo() of step " + i, x.undo(), states.size());
            }
            if (states.size() == 5) {
                states.remove(0);
            }
            E.same("LOUD behind step " + i, x.count(15), loud);
            E.same("states behind step " + i, x.count(18), states.size());
        }
    }

    private static void orderOfErrors() {
        E.of("Changes and errors", "If several errors apply to a call, INVALID_ARGUMENT is returned rather than NOT_POSSIBLE,");
        EchoTurns two = Edges.scene("t5*5,w6*6");
        E.same("a twin with the strength 0", two.target(5, 0, 0, false), Edges.INVALID);
        E.same("a twin with the strength 100", two.target(5, 100, 0, false), Edges.INVALID);
        E.same("ifWall of a twin with the strength 0", two.ifWall(6, 0, 0), Edges.INVALID);
        E.same("ifWall of a twin with what 2", two.ifWall(6, 6, 2), Edges.INVALID);
        E.same("ifWall of a twin with what -1", two.ifWall(6, 6, -1), Edges.INVALID);
        E.of("Changes and errors", " NOT_POSSIBLE rather than LIMIT_REACHED,");
        EchoTurns six = Edges.scene("t1*1,t2*1,t3*1,t4*1+1,w5*1,w6*1");
        E.same("a twin where there are six", six.target(4, 5, 1, false), Edges.NOT_POSSIBLE);
        E.same("a twin of a wall where there are six", six.target(5, 5, 0, true), Edges.NOT_POSSIBLE);
        E.same("ifWall of a twin where there are six", six.ifWall(3, 5, 0), Edges.NOT_POSSIBLE);
        E.same("no twin where there are six", six.target(4, 5, 0, false), Edges.LIMIT);
        E.same("ifWall of no twin where there are six", six.ifWall(4, 5, 0), Edges.LIMIT);
        E.same("seven, the first two alike", Edges.pad("t1*1,t1*2,t3*1,t4*1,t5*1,t6*1,t7*1").load(), Edges.NOT_POSSIBLE);
        E.same("seven, the last two alike", Edges.pad("t1*1,t2*1,t3*1,t4*1,t5*1,t7*2,t7*1").load(), Edges.NOT_POSSIBLE);
        E.same("eight, the last two alike", Edges.pad("t1*1,t2*1,t3*1,t4*1,t5*1,t6*1,t7*1,w7*2").load(), Edges.NOT_POSSIBLE);
        String nine = "t1*1,t2*1,t3*1,t4*1,t5*1,t6*1,t7*1,t8*1,t9*1";
        E.same("nine", Edges.pad(nine).load(), Edges.LIMIT);
        E.same("ten, the last like the ninth", Edges.pad(nine + ",w9*1").load(), Edges.NOT_POSSIBLE);
        E.same("eleven, none like another", Edges.pad(nine + ",w10*1,w11*1").load(), Edges.LIMIT);
        E.same("eleven, the last like the first", Edges.pad(nine + ",t10*1,w1*9").load(), Edges.NOT_POSSIBLE);
        E.same("twelve, the last two like others", Edges.pad(nine + ",t10*1,w1*1,w2*1").load(), Edges.NOT_POSSIBLE);
        E.same("seven with a fault", Edges.pad("t1*1,t2*1,t3*1,t4*1,t5*1,t6*1,t7*1,").load(), Edges.NOT_POSSIBLE);
        E.same("seven without", Edges.pad("t1*1,t2*1,t3*1,t4*1,t5*1,t6*1,t7*1").load(), Edges.LIMIT);
        E.of("Changes and errors", " and LIMIT_REACHED rather than NOT_FOUND.");
        E.same("INVALID_ARGUMENT rather than LIMIT_REACHED: target", six.target(301, 5, 0, false), Edges.INVALID);
        E.same("INVALID_ARGUMENT rather than LIMIT_REACHED: ifWall", six.ifWall(7, 5, 2), Edges.INVALID);
        E.same("INVALID_ARGUMENT rather than LIMIT_REACHED: ifTurn", full().ifTurn(9, 0), Edges.INVALID);
        E.same("INVALID_ARGUMENT rather than LIMIT_REACHED: ifTurn", full().ifTurn(10, 3), Edges.INVALID);
        E.same("INVALID_ARGUMENT rather than LIMIT_REACHED: append", full().append(32), Edges.INVALID);
        E.same("INVALID_ARGUMENT rather than NOT_FOUND: ghost", empty().ghost(0, 5), Edges.INVALID);
        E.same("INVALID_ARGUMENT rather than NOT_FOUND: echo", empty().echo(0, 0, 4), Edges.INVALID);
        E.same("INVALID_ARGUMENT rather than NOT_FOUND: echo", empty().echo(1, 0, 0), Edges.INVALID);
        E.same("INVALID_ARGUMENT rather than NOT_FOUND: told", empty().told(0, 4), Edges.INVALID);
        E.same("INVALID_ARGUMENT rather than NOT_FOUND: sign", empty().sign(-1), Edges.INVALID);
        EchoTurns equal = Edges.scene("t5*5;20/20");
        E.same("INVALID_ARGUMENT rather than NOT_FOUND: unfold", equal.unfold(1, 2, 2), Edges.INVALID);
        E.same("LIMIT_REACHED: bestTurn", full().bestTurn(), Edges.LIMIT);
    }

    private static void noSuchTargetOrTurn() {
        E.of("Changes and errors", "If there is no target or turn of a certain number, this is INVALID_ARGUMENT.");
        int[] numbers = {Edges.MIN, -1, 2, 3, 4, 5, 6, Edges.MAX};
        for (int number : numbers) {
            EchoTurns x = Edges.scene("t5*5,w6*6;10/20");
            E.same("drop(" + number + ")", x.drop(number), Edges.INVALID);
            E.same("targetOf(" + number + ", 0)", x.targetOf(number, 0), Edges.INVALID);
            E.same("targetOf(" + number + ", 6)", x.targetOf(number, 6), Edges.INVALID);
            E.same("echo(" + number + ", 0, 0)", x.echo(number, 0, 0), Edges.INVALID);
            E.same("fits(5, 0, " + number + ")", x.fits(5, 0, number), Edges.INVALID);
        }
        E.same("drop(0) of none", empty().drop(0), Edges.INVALID);
        E.same("targetOf(0, 0) of none", empty().targetOf(0, 0), Edges.INVALID);
        E.same("echo(1, 0, 0) of one turn", empty().echo(1, 0, 0), Edges.INVALID);
        E.same("fits(5, 0, 1) of one turn", empty().fits(5, 0, 1), Edges.INVALID);
        E.same("echo(0, 0, 0) of one turn", empty().echo(0, 0, 0), Edges.NOT_FOUND);
        E.same("fits(5, 0, 0) of one turn", empty().fits(5, 0, 0), 0);
        EchoTurns fewer = Edges.scene("t5*5,w6*6;10/20/30/40");
        fewer.spacings(10, 20, 30, 0);
        fewer.drop(0);
        E.same("a turn that there was", fewer.echo(3, 0, 0), Edges.INVALID);
        E.same("a turn that there was", fewer.fits(5, 0, 3), Edges.INVALID);
        E.same("a target that there was", fewer.targetOf(1, 0), Edges.INVALID);
    }

    private static void unchanged(String base, String name, Call call, int want) {
        EchoTurns x = baseOf(base);
        E.same(name + " on " + base, call.on(x), want);
        E.sameText("all behind " + name + " on " + base, Edges.all(x), Edges.all(baseOf(base)));
    }

    private static EchoTurns baseOf(String name) {
        switch (name) {
            case "middle":
                return middle();
            case "full":
                return full();
            case "seven":
                EchoTurns seven = new EchoTurns();
                seven.go();
                Edges.append(seven, "t1*1,t2*1,t3*1,t4*1,t5*1,t6*1,t7*1");
                return seven;
            case "twins":
                EchoTurns twins = Edges.scene("t8*8");
                Edges.append(twins, "t1*1,w1*1");
                return twins;
            default:
                return empty();
        }
    }

    private static void errorsChangeNothing() {
        E.of("Changes and errors", "A call that returns an error changes nothing (the pad stays, too).");
        for (String base : new String[] {"middle", "full", "empty"}) {
            unchanged(base, "target(0, 5, 0, false)", x -> x.target(0, 5, 0, false), Edges.INVALID);
            unchanged(base, "target(5, 5, 1, true)", x -> x.target(5, 5, 1, true), Edges.INVALID);
            unchanged(base, "drop(6)", x -> x.drop(6), Edges.INVALID);
            unchanged(base, "drop(-1)", x -> x.drop(-1), Edges.INVALID);
            unchanged(base, "spacings(9, 0, 0, 0)", x -> x.spacings(9, 0, 0, 0), Edges.INVALID);
            unchanged(base, "spacings(11, 12, 13, 51)", x -> x.spacings(11, 12, 13, 51), Edges.INVALID);
            unchanged(base, "spacings(11, 12, 0, 13)", x -> x.spacings(11, 12, 0, 13), Edges.INVALID);
            unchanged(base, "set(0, 10)", x -> x.set(0, 10), Edges.INVALID);
            unchanged(base, "set(1, 0)", x -> x.set(1, 0), Edges.INVALID);
            unchanged(base, "set(2, 1)", x -> x.set(2, 1), Edges.INVALID);
            unchanged(base, "append(32)", x -> x.append(32), Edges.INVALID);
            unchanged(base, "append(127)", x -> x.append(127), Edges.INVALID);
            unchanged(base, "sign(-1)", x -> x.sign(-1), Edges.INVALID);
            unchanged(base, "sign(90)", x -> x.sign(90), Edges.NOT_FOUND);
            unchanged(base, "targetOf(6, 0)", x -> x.targetOf(6, 0), Edges.INVALID);
            unchanged(base, "ghost(15, 0)", x -> x.ghost(15, 0), Edges.NOT_FOUND);
            unchanged(base, "echo(4, 0, 0)", x -> x.echo(4, 0, 0), Edges.INVALID);
            unchanged(base, "fits(601, 0, 0)", x -> x.fits(601, 0, 0), Edges.INVALID);
            unchanged(base, "told(9999, 0)", x -> x.told(9999, 0), Edges.NOT_FOUND);
            unchanged(base, "alike(2)", x -> x.alike(2), Edges.INVALID);
            unchanged(base, "unfold(-1, 0, 0)", x -> x.unfold(-1, 0, 0), Edges.INVALID);
            unchanged(base, "count(19)", x -> x.count(19), Edges.INVALID);
            unchanged(base, "ifTurn(51, 0)", x -> x.ifTurn(51, 0), Edges.INVALID);
            unchanged(base, "ifWall(301, 5, 0)", x -> x.ifWall(301, 5, 0), Edges.INVALID);
        }
        unchanged("middle", "target(40, 5, 2, false)", x -> x.target(40, 5, 2, false), Edges.NOT_POSSIBLE);
        unchanged("middle", "ifWall(30, 5, 0)", x -> x.ifWall(30, 5, 0), Edges.NOT_POSSIBLE);
        unchanged("full", "target(9, 5, 2, false)", x -> x.target(9, 5, 2, false), Edges.LIMIT);
        unchanged("full", "append(57)", x -> x.append(57), Edges.LIMIT);
        unchanged("full", "load()", x -> x.load(), Edges.NOT_POSSIBLE);
        unchanged("full", "restore()", x -> x.restore(), Edges.NOT_POSSIBLE);
        unchanged("full", "ifTurn(20, 0)", x -> x.ifTurn(20, 0), Edges.LIMIT);
        unchanged("full", "bestTurn()", x -> x.bestTurn(), Edges.LIMIT);
        unchanged("full", "ifWall(9, 5, 0)", x -> x.ifWall(9, 5, 0), Edges.LIMIT);
        unchanged("empty", "load()", x -> x.load(), Edges.NOT_POSSIBLE);
        unchanged("empty", "undo()", x -> x.undo(), Edges.NOT_POSSIBLE);
        unchanged("empty", "restore()", x -> x.restore(), Edges.NOT_POSSIBLE);
        unchanged("seven", "load()", x -> x.load(), Edges.LIMIT);
        unchanged("twins", "load()", x -> x.load(), Edges.NOT_POSSIBLE);
    }

    private static void looksChangeNothing() {
        E.of("Changes and errors", "---- looks; nothing is changed.");
        unchanged("middle", "targetOf(0, 4)", x -> x.targetOf(0, 4), 1);
        unchanged("full", "ghost(0, 0)", x -> x.ghost(0, 0), 50);
        unchanged("middle", "echo(0, 0, 0)", x -> x.echo(0, 0, 0), 10);
        unchanged("middle", "fits(40, 2, 0)", x -> x.fits(40, 2, 0), 1);
        unchanged("middle", "told(0, 2)", x -> Math.min(x.told(0, 2), 0), 0);
        unchanged("middle", "alike(0)", x -> x.alike(0), 14880);
        unchanged("middle", "alike(1)", x -> x.alike(1), 14880);
        unchanged("middle", "unfold(10, 9, 0)", x -> x.unfold(10, 9, 0), 40);
        unchanged("middle", "unfold(10, 9, 1)", x -> x.unfold(10, 9, 1), 40);
        unchanged("middle", "count(13)", x -> x.count(13), 0);
        unchanged("middle", "truth()", x -> x.truth() > 0.0 ? 1 : 0, 1);
        unchanged("middle", "sign(0)", x -> x.sign(0), 'w');
        unchanged("middle", "fault()", x -> x.fault(), Edges.NOT_FOUND);
        unchanged("full", "fault()", x -> x.fault(), 60);
        E.of("Changes and errors", "---- what would be; nothing is changed.");
        unchanged("middle", "ifTurn(33, 2)", x -> x.ifTurn(33, 2), 0);
        unchanged("middle", "bestTurn()", x -> Math.min(x.bestTurn(), 10), 10);
        unchanged("middle", "ifWall(77, 99, 0)", x -> x.ifWall(77, 99, 0), 1);
        unchanged("middle", "ifWall(77, 99, 1)", x -> Math.min(x.ifWall(77, 99, 1), 1), 1);
        unchanged("empty", "bestTurn()", x -> x.bestTurn(), 10);
    }

    private static void constants() {
        E.of("Changes and errors", "`INVALID_ARGUMENT = -1`: An argument is out of its range, or there is no such target or turn.");
        E.same("INVALID_ARGUMENT", EchoTurns.INVALID_ARGUMENT, -1);
        E.same("an argument out of its range", empty().set(0, 10), -1);
        E.same("no such target", empty().drop(0), -1);
        E.same("no such turn", empty().echo(1, 0, 0), -1);
        E.of("Changes and errors", "`NOT_POSSIBLE = -2`: The call is not possible in the present state.");
        E.same("NOT_POSSIBLE", EchoTurns.NOT_POSSIBLE, -2);
        E.same("undo()", empty().undo(), -2);
        E.of("Changes and errors", "`LIMIT_REACHED = -3`: A fixed limit has been reached.");
        E.same("LIMIT_REACHED", EchoTurns.LIMIT_REACHED, -3);
        E.same("a fifth turn", full().bestTurn(), -3);
        E.of("Changes and errors", "`NOT_FOUND = -4`: There is no such value.");
        E.same("NOT_FOUND", EchoTurns.NOT_FOUND, -4);
        E.same("no second spacing", empty().count(5), -4);
        E.of("Changes and errors", "`BLIND = 0, LOUD = 1`: Numbers of the settings.");
        E.same("BLIND", EchoTurns.BLIND, 0);
        E.same("LOUD", EchoTurns.LOUD, 1);
        EchoTurns x = empty();
        x.set(EchoTurns.BLIND, 7);
        x.set(EchoTurns.LOUD, 8);
        E.same("count(14)", x.count(14), 7);
        E.same("count(15)", x.count(15), 8);
    }
}
