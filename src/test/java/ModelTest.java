import java.util.Random;

/** Runs of chosen calls on fresh objects, each answer compared with the model's. The seeds are fixed, so each run is the same. */
final class ModelTest {
    private static final int RUNS = 1000;
    private static final int CALLS = 512;
    private static final int[] EDGES = {
        Integer.MIN_VALUE, -300, -6, -5, -1, 0, 1, 2, 3, 4, 5, 6, 7, 9, 10, 11, 19, 20, 50, 51, 60, 99, 100,
        300, 301, 600, 601, Integer.MAX_VALUE
    };
    private static final String SIGNS = "twtw0123456789*+-,;/";

    private final Due due = new Due("ModelTest");
    private Random random;
    private EchoTurns real;
    private Model model;
    private String waiting;
    private boolean loadIsNext;
    private int spread;

    private ModelTest() {
    }

    public static void main(String[] args) {
        ModelTest test = new ModelTest();
        int runs = args.length > 0 ? Integer.parseInt(args[0]) : RUNS;
        int from = args.length > 1 ? Integer.parseInt(args[1]) : 0;
        for (int run = from; run < from + runs && !test.due.isWrong(); run++) {
            test.runOnce(run);
        }
        test.due.end();
    }

    private void runOnce(int seed) {
        random = new Random(seed);
        real = new EchoTurns();
        model = new Model();
        waiting = "";
        loadIsNext = false;
        // Narrow scenes have more echoes that fall together, wide ones more that do not.
        spread = seed % 3 == 0 ? 300 : seed % 3 == 1 ? 60 : 12;
        for (int call = 0; call < CALLS && !due.isWrong(); call++) {
            String name = "run " + seed + ", call " + call + ": ";
            if (loadIsNext) {
                loadIsNext = false;
                due.same(name + "load()", real.load(), model.load());
            } else if (!waiting.isEmpty()) {
                int code = waiting.charAt(0);
                waiting = waiting.substring(1);
                due.same(name + "append(" + code + ")", real.append(code), model.append(code));
            } else {
                callOnce(name);
            }
        }
    }

    private int upTo(int most) {
        return random.nextInt(most + 1);
    }

    /** A number of the range, or sometimes one from its edges or beyond them. */
    private int about(int from, int to) {
        int kind = upTo(24);
        if (kind == 0) {
            return EDGES[upTo(EDGES.length - 1)];
        }
        return kind == 1 ? from : kind == 2 ? to : kind == 3 ? from - 1 : kind == 4 ? to + 1 : from + upTo(to - from);
    }

    private int inside(int from, int to) {
        return upTo(30) == 0 ? about(from, to) : from + upTo(to - from);
    }

    private void callOnce(String name) {
        int kind = upTo(99);
        if (kind < 38) {
            change(name, kind);
        } else if (kind < 44) {
            write(name);
        } else if (kind < 86) {
            look(name);
        } else if (kind < 93) {
            wouldBe(name);
        } else {
            texts(name);
        }
    }

    private void change(String name, int kind) {
        if (kind < 16) {
            boolean wall = upTo(1) == 0;
            int d = upTo(2) == 0 ? inside(1, 300) : inside(1, spread);
            int s = upTo(2) == 0 ? inside(1, 20) : inside(1, 99);
            int m = wall && upTo(15) > 0 ? 0 : inside(-5, 5);
            due.same(name + "target(" + d + ", " + s + ", " + m + ", " + wall + ")",
                real.target(d, s, m, wall), model.target(d, s, m, wall));
        } else if (kind < 19) {
            int target = inside(0, 5);
            due.same(name + "drop(" + target + ")", real.drop(target), model.drop(target));
        } else if (kind < 22) {
            due.same(name + "go()", real.go(), model.go());
        } else if (kind < 26) {
            changeSpacings(name);
        } else if (kind < 30) {
            int what = inside(0, 1);
            int value = upTo(3) == 0 ? 0 : what == 0 ? inside(0, 9) : upTo(1) == 0 ? inside(1, 99) : inside(1, 15);
            due.same(name + "set(" + what + ", " + value + ")", real.set(what, value), model.set(what, value));
        } else if (kind < 33) {
            due.same(name + "undo()", real.undo(), model.undo());
        } else if (kind < 36) {
            due.same(name + "save()", real.save(), model.save());
        } else {
            due.same(name + "restore()", real.restore(), model.restore());
        }
    }

    private void changeSpacings(String name) {
        int turns = 1 + upTo(3);
        int a = inside(10, 50);
        int b = turns > 1 ? inside(10, 50) : upTo(20) == 0 ? about(0, 0) : 0;
        int c = turns > 2 ? inside(10, 50) : upTo(20) == 0 ? about(10, 50) : 0;
        int d = turns > 3 ? inside(10, 50) : upTo(20) == 0 ? about(10, 50) : 0;
        due.same(name + "spacings(" + a + ", " + b + ", " + c + ", " + d + ")",
            real.spacings(a, b, c, d), model.spacings(a, b, c, d));
    }

    /** A text for the pad: mostly a scene, sometimes with a sign changed, left out or put in. */
    private void write(String name) {
        due.same(name + "clear()", real.clear(), model.clear());
        StringBuilder text = new StringBuilder();
        int targets = upTo(4) == 0 ? 1 + upTo(12) : 1 + upTo(5);
        for (int i = 0; i < targets; i++) {
            boolean wall = upTo(2) == 0;
            int strength = upTo(1) == 0 ? 1 + upTo(8) : 1 + upTo(98);
            text.append(i > 0 ? "," : "").append(wall ? "w" : "t").append(1 + upTo(upTo(2) == 0 ? 299 : 8));
            text.append('*').append(strength);
            if (!wall && upTo(1) == 0) {
                text.append(upTo(1) == 0 ? '+' : '-').append(1 + upTo(4));
            }
        }
        int turns = upTo(4);
        for (int i = 0; i < turns; i++) {
            text.append(i == 0 ? ";" : "/").append(10 + upTo(40));
        }
        for (int faults = upTo(5) - 3; faults > 0; faults--) {
            int place = upTo(text.length() - 1);
            char sign = SIGNS.charAt(upTo(SIGNS.length() - 1));
            int kind = upTo(3);
            if (kind == 0) {
                text.setCharAt(place, sign);
            } else if (kind == 1) {
                text.insert(place, sign);
            } else if (kind == 2 && text.length() > 1) {
                text.deleteCharAt(place);
            } else {
                text.setLength(place + 1);
            }
        }
        waiting = text.toString();
    }

    private void texts(String name) {
        switch (upTo(5)) {
            case 0 -> due.same(name + "clear()", real.clear(), model.clear());
            case 1 -> {
                int code = upTo(3) == 0 ? about(33, 126) : SIGNS.charAt(upTo(SIGNS.length() - 1));
                due.same(name + "append(" + code + ")", real.append(code), model.append(code));
            }
            case 2 -> due.same(name + "load()", real.load(), model.load());
            default -> {
                due.same(name + "fault()", real.fault(), model.fault());
                loadIsNext = true;
            }
        }
    }

    private void look(String name) {
        switch (upTo(11)) {
            case 0 -> {
                int target = inside(0, 5);
                int what = inside(0, 6);
                due.same(name + "targetOf(" + target + ", " + what + ")",
                    real.targetOf(target, what), model.targetOf(target, what));
            }
            case 1 -> {
                int ghost = inside(0, 4);
                int what = inside(0, 4);
                due.same(name + "ghost(" + ghost + ", " + what + ")", real.ghost(ghost, what), model.ghost(ghost, what));
            }
            case 2 -> {
                int turn = inside(0, 3);
                int echo = inside(0, 5);
                int what = inside(0, 3);
                due.same(name + "echo(" + turn + ", " + echo + ", " + what + ")",
                    real.echo(turn, echo, what), model.echo(turn, echo, what));
            }
            case 3 -> {
                int distance = upTo(1) == 0 ? inside(1, 600) : inside(1, spread);
                int pitch = upTo(1) == 0 ? 0 : inside(-5, 5);
                int turn = inside(0, 3);
                due.same(name + "fits(" + distance + ", " + pitch + ", " + turn + ")",
                    real.fits(distance, pitch, turn), model.fits(distance, pitch, turn));
            }
            case 4, 5 -> {
                int place = upTo(1) == 0 ? inside(0, 8) : about(0, 200);
                int what = inside(0, 3);
                due.same(name + "told(" + place + ", " + what + ")", real.told(place, what), model.told(place, what));
            }
            case 6 -> {
                int way = inside(0, 1);
                due.same(name + "alike(" + way + ")", real.alike(way), model.alike(way));
            }
            case 7 -> {
                int first = inside(0, 20);
                int second = upTo(1) == 0 ? 0 : inside(0, 20);
                int way = inside(0, 1);
                due.same(name + "unfold(" + first + ", " + second + ", " + way + ")",
                    real.unfold(first, second, way), model.unfold(first, second, way));
            }
            case 8 -> due.same(name + "truth()", real.truth(), model.truth());
            case 9 -> {
                int place = upTo(1) == 0 ? inside(0, 20) : about(0, 75);
                due.same(name + "sign(" + place + ")", real.sign(place), model.sign(place));
            }
            default -> {
                int what = inside(0, 18);
                due.same(name + "count(" + what + ")", real.count(what), model.count(what));
            }
        }
    }

    private void wouldBe(String name) {
        int kind = upTo(12);
        if (kind < 2) {
            due.same(name + "bestTurn()", real.bestTurn(), model.bestTurn());
        } else if (kind < 7) {
            int spacing = inside(10, 50);
            int what = inside(0, 2);
            due.same(name + "ifTurn(" + spacing + ", " + what + ")", real.ifTurn(spacing, what), model.ifTurn(spacing, what));
        } else {
            int distance = inside(1, upTo(1) == 0 ? 300 : spread);
            int strength = inside(1, 99);
            int what = inside(0, 1);
            due.same(name + "ifWall(" + distance + ", " + strength + ", " + what + ")",
                real.ifWall(distance, strength, what), model.ifWall(distance, strength, what));
        }
    }
}
