/** Promises 24 to 26: undo, save, restore. */
final class HistoryTest {
    private static final Due DUE = new Due("HistoryTest");
    private static final int NOT_POSSIBLE = -2;
    private static final int NOT_FOUND = -4;

    private HistoryTest() {
    }

    public static void main(String[] args) {
        promise24();
        promise24EachChange();
        promise24Limit();
        promise25();
        promise26();
        DUE.end();
    }

    private static void due(String call, long got, long want) {
        DUE.same(call, got, want);
    }

    private static void append(EchoTurns x, String text) {
        for (int i = 0; i < text.length(); i++) {
            x.append(text.charAt(i));
        }
    }

    private static void promise24() {
        EchoTurns x = new EchoTurns();
        due("24: undo() of none", x.undo(), NOT_POSSIBLE);
        x.target(10, 20, 3, false);
        x.spacings(30, 31, 32, 33);
        x.set(0, 5);
        append(x, "abc");
        due("24: undo of set", x.undo(), 2);
        due("24: BLIND before", x.count(14), 0);
        due("24: the pad stays", x.count(17), 3);
        due("24: the turns stay", x.count(3), 4);
        due("24: undo of spacings", x.undo(), 1);
        due("24: one turn", x.count(3), 1);
        due("24: the spacing before", x.count(4), 20);
        due("24: no other", x.count(5), NOT_FOUND);
        due("24: undo of target", x.undo(), 0);
        due("24: none", x.count(0), 0);
        due("24: no more", x.undo(), NOT_POSSIBLE);
        x.go();
        due("24: the history goes on", x.count(18), 1);
    }

    private static void promise24EachChange() {
        EchoTurns x = new EchoTurns();
        x.target(10, 20, 3, false);
        x.target(299, 30, 5, false);
        x.target(50, 40, 0, true);
        x.go();
        due("24: one went", x.count(0), 2);
        due("24: undo of go", x.undo(), 3);
        due("24: it is back", x.targetOf(1, 0), 299);
        due("24: the first is where it was", x.targetOf(0, 0), 10);
        due("24: its wall", x.targetOf(2, 3), 1);
        x.drop(0);
        due("24: undo of drop", x.undo(), 3);
        due("24: it is back", x.targetOf(0, 1), 20);
        due("24: it is back", x.targetOf(0, 2), 8);
        due("24: those behind it too", x.targetOf(1, 1), 30);
        append(x, "w7*7;45");
        x.load();
        due("24: undo of load", x.undo(), 3);
        due("24: the scene before", x.count(0), 3);
        due("24: the spacing before", x.count(4), 20);
        due("24: the pad stays empty", x.count(17), 0);
        x.save();
        x.set(1, 44);
        x.restore();
        due("24: LOUD as of the snapshot", x.count(15), 1);
        due("24: undo of restore", x.undo(), 3);
        due("24: LOUD before", x.count(15), 44);
        due("24: undo of set", x.undo(), 2);
        due("24: LOUD before", x.count(15), 1);
    }

    private static void promise24Limit() {
        EchoTurns x = new EchoTurns();
        for (int i = 1; i <= 9; i++) {
            x.set(0, i);
            due("24: states", x.count(18), i < 4 ? i : 4);
        }
        for (int left = 3; left >= 0; left--) {
            due("24: undo()", x.undo(), left);
            due("24: BLIND before", x.count(14), 5 + left);
        }
        due("24: older ones are dropped", x.undo(), NOT_POSSIBLE);
        due("24: BLIND stays", x.count(14), 5);
        x.set(0, 1);
        x.set(0, 2);
        x.undo();
        x.set(0, 3);
        x.set(1, 7);
        due("24: three", x.count(18), 3);
        due("24: LOUD", x.undo(), 2);
        due("24: BLIND 3", x.count(14), 3);
        x.undo();
        due("24: BLIND 1", x.count(14), 1);
        x.undo();
        due("24: BLIND 5", x.count(14), 5);
    }

    private static void promise25() {
        EchoTurns x = new EchoTurns();
        due("25: save() of none", x.save(), 0);
        due("25: it is no change", x.count(18), 0);
        due("25: undo does not undo it", x.undo(), NOT_POSSIBLE);
        x.target(5, 6, 0, true);
        x.target(7, 6, 1, false);
        due("25: save()", x.save(), 2);
        due("25: it is no change", x.count(18), 2);
        x.drop(0);
        due("25: the latest one", x.restore(), 2);
        x.drop(0);
        due("25: save() again", x.save(), 1);
        x.undo();
        due("25: in place of the one that was", x.restore(), 1);
        due("25: in place of the one that was", x.targetOf(0, 0), 7);
    }

    private static void promise26() {
        EchoTurns x = new EchoTurns();
        due("26: restore() of none", x.restore(), NOT_POSSIBLE);
        due("26: an error is no change", x.count(18), 0);
        x.spacings(11, 12, 13, 0);
        x.set(0, 7);
        x.set(1, 8);
        x.target(5, 6, 0, true);
        append(x, "t5");
        x.save();
        x.spacings(50, 0, 0, 0);
        x.set(0, 1);
        x.set(1, 2);
        x.target(9, 10, -5, false);
        x.append('*');
        due("26: restore()", x.restore(), 1);
        due("26: targets", x.count(0), 1);
        due("26: the wall", x.targetOf(0, 3), 1);
        due("26: turns", x.count(3), 3);
        due("26: spacing 2", x.count(6), 13);
        due("26: BLIND", x.count(14), 7);
        due("26: LOUD", x.count(15), 8);
        due("26: the pad stays", x.count(17), 3);
        due("26: the history is not restored", x.count(18), 4);
        due("26: it is a change", x.undo(), 3);
        due("26: before it", x.count(0), 2);
        due("26: before it", x.count(14), 1);
        x.drop(0);
        x.drop(0);
        due("26: the snapshot stays", x.restore(), 1);
        x.drop(0);
        due("26: what comes later does not change it", x.restore(), 1);
        due("26: what comes later does not change it", x.targetOf(0, 1), 6);
        due("26: also when it is the same", x.restore(), 1);
        due("26: also when it is the same", x.count(18), 4);
        for (int i = 0; i < 6; i++) {
            x.undo();
        }
        due("26: undo leaves the snapshot", x.restore(), 1);
    }
}
