/** The sentences of the promises 24 to 26, each at its edges: undo, save, restore. */
final class HistoryEdgesTest {
    private static final Edges E = new Edges("HistoryEdgesTest");

    private HistoryEdgesTest() {
    }

    public static void main(String[] args) {
        undoEverything();
        undoLeavesPadAndSnapshot();
        undoReturns();
        undoNotPossible();
        saveEverything();
        saveInPlace();
        saveReturns();
        restoreStays();
        restoreReturns();
        restoreNotPossible();
        E.end();
    }

    private static EchoTurns six() {
        return Edges.scene("t1*1-5,w2*2,t300*99+5,w4*4,t5*5+1,t6*6;10/50/11/49", 9, 99);
    }

    private static void undoEverything() {
        E.of("Promise 24", "Undoes the latest change: everything but the pad and the snapshot is as it was before it.");
        for (int kind = 0; kind < 8; kind++) {
            EchoTurns x = six();
            x.save();
            x.set(0, 8);
            Edges.append(x, "w7*7;33");
            String before = Edges.state(x);
            change(x, kind);
            E.same("the change " + kind + " is one", Edges.state(x).equals(before) ? 1 : 0, 0);
            E.same("undo() of the change " + kind, x.undo(), 3);
            E.sameText("behind undo() of the change " + kind, Edges.state(x), before);
        }
        EchoTurns first = new EchoTurns();
        first.target(5, 5, 0, true);
        first.undo();
        E.sameText("the first change", Edges.state(first), Edges.state(new EchoTurns()));
        E.same("its number is free again", first.target(5, 5, 0, true), 0);
    }

    private static void change(EchoTurns x, int kind) {
        switch (kind) {
            case 0 -> x.drop(0);
            case 1 -> x.drop(5);
            case 2 -> x.go();
            case 3 -> x.spacings(20, 0, 0, 0);
            case 4 -> x.set(0, 0);
            case 5 -> x.set(1, 1);
            case 6 -> x.load();
            default -> x.restore();
        }
    }

    private static void undoLeavesPadAndSnapshot() {
        E.of("Promise 24", "Undoes the latest change: everything but the pad and the snapshot is as it was before it.");
        EchoTurns x = Edges.scene("w7*7");
        x.target(8, 8, 1, false);
        x.save();
        Edges.append(x, "t5*5");
        x.undo();
        E.same("the pad", x.count(17), 4);
        E.same("the snapshot", x.restore(), 2);
        x.undo();
        E.same("load() of the pad", x.load(), 1);
        E.same("undo() of load()", x.undo(), 1);
        E.same("the pad stays empty", x.count(17), 0);
        E.same("fault()", x.fault(), 0);
        x.undo();
        E.same("nothing is there", x.count(0), 0);
        E.same("but the snapshot", x.restore(), 2);
        EchoTurns saved = new EchoTurns();
        saved.go();
        saved.save();
        saved.undo();
        E.same("undo() leaves a snapshot that came behind the change", saved.restore(), 0);
    }

    private static void undoReturns() {
        E.of("Promise 24", "Returns how many states the history has then;");
        for (int changes = 1; changes <= 6; changes++) {
            EchoTurns x = new EchoTurns();
            for (int i = 0; i < changes; i++) {
                x.go();
            }
            for (int left = Math.min(changes, 4) - 1; left >= 0; left--) {
                E.same("undo() of " + changes, x.undo(), left);
                E.same("count(18)", x.count(18), left);
            }
        }
    }

    private static void undoNotPossible() {
        E.of("Promise 24", " NOT_POSSIBLE if it has none.");
        E.same("of a new object", new EchoTurns().undo(), Edges.NOT_POSSIBLE);
        EchoTurns x = six();
        x.undo();
        x.undo();
        E.same("the last", x.undo(), 0);
        E.same("none", x.undo(), Edges.NOT_POSSIBLE);
        E.same("none again", x.undo(), Edges.NOT_POSSIBLE);
        E.same("count(18)", x.count(18), 0);
        x.go();
        E.same("one again", x.undo(), 0);
        EchoTurns saved = Edges.pad("t5*5");
        saved.save();
        saved.clear();
        E.same("the pad and the snapshot are no changes", saved.undo(), Edges.NOT_POSSIBLE);
        EchoTurns wrong = new EchoTurns();
        wrong.target(0, 5, 0, false);
        wrong.set(0, 10);
        E.same("errors are no changes", wrong.undo(), Edges.NOT_POSSIBLE);
    }

    private static void saveEverything() {
        E.of("Promise 25", "Takes a snapshot of everything but the pad and the history,");
        EchoTurns x = six();
        String saved = Edges.state(x);
        x.save();
        Edges.append(x, "w9*9;20");
        E.same("the snapshot is no state", x.count(18), 3);
        x.load();
        x.set(0, 0);
        x.set(1, 1);
        Edges.append(x, "xyz");
        E.same("restore()", x.restore(), 6);
        E.sameText("targets, spacings and settings", Edges.state(x), saved);
        E.same("the pad is not of it", x.count(17), 3);
        E.same("the history is not of it", x.count(18), 4);
        E.same("undo() behind it", x.undo(), 3);
        E.sameText("the state before it", Edges.state(x), "9 9 5 1,  1 20 -4 -4 -4 0 1");
    }

    private static void saveInPlace() {
        E.of("Promise 25", " in place of the one that was.");
        EchoTurns x = six();
        x.save();
        x.drop(0);
        x.set(1, 98);
        x.save();
        x.drop(0);
        x.spacings(20, 0, 0, 0);
        E.same("restore()", x.restore(), 5);
        E.same("its first target", x.targetOf(0, 0), 2);
        E.same("its LOUD", x.count(15), 98);
        x.restore();
        E.same("the first one does not come back", x.count(0), 5);
        EchoTurns same = Edges.scene("t5*5");
        same.save();
        same.save();
        same.drop(0);
        E.same("the same again", same.restore(), 1);
        EchoTurns none = Edges.scene("t5*5");
        none.save();
        none.drop(0);
        none.save();
        none.target(6, 6, 0, false);
        E.same("one without targets in place of one with", none.restore(), 0);
    }

    private static void saveReturns() {
        E.of("Promise 25", "Returns how many targets there are.");
        EchoTurns x = new EchoTurns();
        E.same("save() of none", x.save(), 0);
        for (int targets = 1; targets <= 6; targets++) {
            x.target(targets, 5, 0, false);
            E.same("save() of " + targets, x.save(), targets);
        }
        x.drop(3);
        E.same("save() of five", x.save(), 5);
        E.same("save() again", x.save(), 5);
        x.undo();
        E.same("save() of six", x.save(), 6);
    }

    private static void restoreStays() {
        E.of("Promise 26", "Restores the snapshot, which stays.");
        EchoTurns x = six();
        String saved = Edges.state(x);
        x.save();
        for (int kind = 0; kind < 6; kind++) {
            change(x, kind);
            E.same("restore() behind the change " + kind, x.restore(), 6);
            E.sameText("behind restore()", Edges.state(x), saved);
        }
        E.same("restore() again", x.restore(), 6);
        x.undo();
        x.undo();
        x.undo();
        x.undo();
        E.same("restore() behind undo()", x.restore(), 6);
        E.sameText("behind restore()", Edges.state(x), saved);
        E.of("Promise 26", "Returns how many targets there are then;");
        E.same("it is a change", x.count(18), 1);
    }

    private static void restoreReturns() {
        E.of("Promise 26", "Returns how many targets there are then;");
        for (int targets = 0; targets <= 6; targets++) {
            EchoTurns x = new EchoTurns();
            for (int i = 0; i < targets; i++) {
                x.target(10 + i, 5, 0, false);
            }
            x.save();
            Edges.append(x, "t1*1,t2*2,t3*3");
            x.load();
            E.same("restore() of " + targets, x.restore(), targets);
            E.same("count(0)", x.count(0), targets);
        }
    }

    private static void restoreNotPossible() {
        E.of("Promise 26", " NOT_POSSIBLE if there is none.");
        E.same("of a new object", new EchoTurns().restore(), Edges.NOT_POSSIBLE);
        EchoTurns x = six();
        E.same("without save()", x.restore(), Edges.NOT_POSSIBLE);
        E.same("count(18)", x.count(18), 3);
        E.same("count(0)", x.count(0), 6);
        x.undo();
        E.same("undo() makes none", x.restore(), Edges.NOT_POSSIBLE);
        EchoTurns empty = new EchoTurns();
        empty.save();
        E.same("one without targets is one", empty.restore(), 0);
        E.same("and its restore() is a change", empty.count(18), 1);
    }
}
