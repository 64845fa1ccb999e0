import java.util.ArrayList;
import java.util.List;
import java.util.TreeMap;
import java.util.TreeSet;
import java.util.regex.Matcher;
import java.util.regex.Pattern;

/** The document's words as plainly as can be, slow and with the whole Java library: what EchoTurns is compared with. */
final class Model {
    static final int INVALID = -1;
    static final int NOT_POSSIBLE = -2;
    static final int LIMIT = -3;
    static final int NOT_FOUND = -4;

    private static final String TARGET =
        "(?:t(?:300|[12][0-9][0-9]|[1-9][0-9]?)[*][1-9][0-9]?(?:[+-][1-5])?|w(?:300|[12][0-9][0-9]|[1-9][0-9]?)[*][1-9][0-9]?)";
    private static final String SPACING = "(?:50|[1-4][0-9])";
    private static final Pattern SCENE = Pattern.compile(
        TARGET + "(?:," + TARGET + ")*(?:;" + SPACING + "(?:/" + SPACING + "){0,3})?");

    record Target(int distance, int strength, int movement, boolean wall) {
    }

    record Source(int distance, int strength, int movement, int one, int other) {
    }

    record Told(int distance, int pitch, int fitting) {
    }

    record State(List<Target> targets, List<Integer> spacings, int blind, int loud) {
    }

    private State now = new State(List.of(), List.of(20), 0, 1);
    private State snapshot = null;
    private final List<State> history = new ArrayList<>();
    private String pad = "";

    private void change(State next) {
        history.add(now);
        if (history.size() == 5) {
            history.remove(0);
        }
        now = next;
    }

    private State with(List<Target> targets) {
        return new State(List.copyOf(targets), now.spacings, now.blind, now.loud);
    }

    private static boolean in(int value, int from, int to) {
        return from <= value && value <= to;
    }

    private static boolean twins(List<Target> targets) {
        TreeSet<String> seen = new TreeSet<>();
        for (Target one : targets) {
            if (!seen.add(one.distance + " " + one.movement)) {
                return true;
            }
        }
        return false;
    }

    private State afterComing(int distance, int strength, int movement, boolean wall) {
        List<Target> more = new ArrayList<>(now.targets);
        more.add(new Target(distance, strength, movement, wall));
        return with(more);
    }

    private int comingError(int distance, int strength, int movement, boolean wall) {
        if (!in(distance, 1, 300) || !in(strength, 1, 99) || !in(movement, -5, 5) || wall && movement != 0) {
            return INVALID;
        }
        if (twins(afterComing(distance, strength, movement, wall).targets)) {
            return NOT_POSSIBLE;
        }
        return now.targets.size() == 6 ? LIMIT : 0;
    }

    int target(int distance, int strength, int movement, boolean wall) {
        int error = comingError(distance, strength, movement, wall);
        if (error == 0) {
            change(afterComing(distance, strength, movement, wall));
        }
        return error == 0 ? now.targets.size() - 1 : error;
    }

    int drop(int target) {
        if (!in(target, 0, now.targets.size() - 1)) {
            return INVALID;
        }
        List<Target> fewer = new ArrayList<>(now.targets);
        fewer.remove(target);
        change(with(fewer));
        return fewer.size();
    }

    int go() {
        List<Target> left = new ArrayList<>();
        for (Target one : now.targets) {
            int distance = one.distance;
            for (int i = 0; i < now.spacings.size(); i++) {
                distance += one.movement;
            }
            if (in(distance, 1, 300)) {
                left.add(new Target(distance, one.strength, one.movement, one.wall));
            }
        }
        change(with(left));
        return left.size();
    }

    int spacings(int first, int second, int third, int fourth) {
        int[] all = {first, second, third, fourth};
        List<Integer> taken = new ArrayList<>();
        boolean ended = false;
        for (int i = 0; i < 4; i++) {
            if (all[i] == 0 && i > 0) {
                ended = true;
            } else if (!in(all[i], 10, 50) || ended) {
                return INVALID;
            } else {
                taken.add(all[i]);
            }
        }
        change(new State(now.targets, taken, now.blind, now.loud));
        return taken.size();
    }

    int set(int what, int value) {
        if (what == 0 && in(value, 0, 9)) {
            int before = now.blind;
            change(new State(now.targets, now.spacings, value, now.loud));
            return before;
        }
        if (what == 1 && in(value, 1, 99)) {
            int before = now.loud;
            change(new State(now.targets, now.spacings, now.blind, value));
            return before;
        }
        return INVALID;
    }

    int append(int code) {
        if (!in(code, 33, 126)) {
            return INVALID;
        }
        if (pad.length() == 60) {
            return LIMIT;
        }
        pad += (char) code;
        return pad.length();
    }

    int clear() {
        int before = pad.length();
        pad = "";
        return before;
    }

    int fault() {
        for (int length = 1; length <= pad.length(); length++) {
            Matcher matcher = SCENE.matcher(pad.substring(0, length));
            if (!matcher.matches() && !matcher.hitEnd()) {
                return length - 1;
            }
        }
        return SCENE.matcher(pad).matches() ? NOT_FOUND : pad.length();
    }

    int load() {
        if (fault() != NOT_FOUND) {
            return NOT_POSSIBLE;
        }
        String[] parts = pad.split(";");
        List<Target> read = new ArrayList<>();
        for (String text : parts[0].split(",")) {
            String[] numbers = text.substring(1).split("[*+-]");
            int speed = numbers.length == 3 ? Integer.parseInt(numbers[2]) : 0;
            read.add(new Target(Integer.parseInt(numbers[0]), Integer.parseInt(numbers[1]),
                text.contains("-") ? -speed : speed, text.startsWith("w")));
        }
        if (twins(read)) {
            return NOT_POSSIBLE;
        }
        if (read.size() > 6) {
            return LIMIT;
        }
        List<Integer> spacings = new ArrayList<>();
        if (parts.length == 1) {
            spacings.addAll(now.spacings);
        } else {
            for (String text : parts[1].split("/")) {
                spacings.add(Integer.parseInt(text));
            }
        }
        change(new State(List.copyOf(read), spacings, now.blind, now.loud));
        pad = "";
        return read.size();
    }

    String text() {
        List<String> targets = new ArrayList<>();
        List<String> spacings = new ArrayList<>();
        for (Target one : now.targets) {
            String movement = one.movement == 0 ? "" : one.movement > 0 ? "+" + one.movement : "" + one.movement;
            targets.add((one.wall ? "w" : "t") + one.distance + "*" + one.strength + movement);
        }
        for (int spacing : now.spacings) {
            spacings.add("" + spacing);
        }
        return targets.isEmpty() ? "" : String.join(",", targets) + ";" + String.join("/", spacings);
    }

    int sign(int place) {
        if (place < 0) {
            return INVALID;
        }
        return place < text().length() ? text().charAt(place) : NOT_FOUND;
    }

    private static List<Source> ghosts(State state) {
        List<Source> all = new ArrayList<>();
        for (int i = 0; i < state.targets.size(); i++) {
            for (int j = i + 1; j < state.targets.size(); j++) {
                Target one = state.targets.get(i);
                Target other = state.targets.get(j);
                int strength = one.strength * other.strength / 200;
                if (one.wall && other.wall && strength != 0) {
                    int near = one.distance < other.distance ? one.distance : other.distance;
                    int far = one.distance < other.distance ? other.distance : one.distance;
                    all.add(new Source(2 * far - near, strength, 0, i, j));
                }
            }
        }
        return all;
    }

    private static List<Source> sources(State state) {
        List<Source> all = new ArrayList<>();
        for (int i = 0; i < state.targets.size(); i++) {
            Target one = state.targets.get(i);
            all.add(new Source(one.distance, one.strength, one.movement, i, i));
        }
        all.addAll(ghosts(state));
        return all;
    }

    private static int place(State state, int distance, int movement, int turn) {
        int there = distance;
        for (int i = 0; i < turn; i++) {
            there += movement;
        }
        return (there < 0 ? 0 : there) % state.spacings.get(turn);
    }

    /** The echoes of a turn in their order: place * 100 + pitch, with strength and parts. */
    private static TreeMap<Integer, int[]> echoes(State state, int turn) {
        TreeMap<Integer, int[]> all = new TreeMap<>();
        for (Source one : sources(state)) {
            int place = place(state, one.distance, one.movement, turn);
            if (one.strength >= state.loud && place >= state.blind) {
                int[] echo = all.computeIfAbsent(place * 100 + one.movement, key -> new int[2]);
                echo[0] += one.strength;
                echo[1]++;
            }
        }
        return all;
    }

    private static List<TreeMap<Integer, int[]>> allEchoes(State state) {
        List<TreeMap<Integer, int[]>> all = new ArrayList<>();
        for (int turn = 0; turn < state.spacings.size(); turn++) {
            all.add(echoes(state, turn));
        }
        return all;
    }

    private static int fit(State state, List<TreeMap<Integer, int[]>> echoes, int distance, int pitch, int turn) {
        int place = place(state, distance, pitch, turn);
        if (place < state.blind) {
            return 2;
        }
        return echoes.get(turn).containsKey(place * 100 + pitch) ? 1 : 0;
    }

    private static List<Told> told(State state) {
        List<TreeMap<Integer, int[]>> echoes = allEchoes(state);
        List<Told> all = new ArrayList<>();
        for (int distance = 1; distance <= 600; distance++) {
            for (int pitch = -5; pitch <= 5; pitch++) {
                int fitting = 0;
                boolean ruledOut = false;
                for (int turn = 0; turn < state.spacings.size() && !ruledOut; turn++) {
                    int fit = fit(state, echoes, distance, pitch, turn);
                    ruledOut = fit == 0;
                    fitting += fit == 1 ? 1 : 0;
                }
                if (!ruledOut && fitting > 0) {
                    all.add(new Told(distance, pitch, fitting));
                }
            }
        }
        return all;
    }

    private static boolean isTrue(State state, Told one) {
        return sources(state).stream().anyMatch(s -> s.distance == one.distance && s.movement == one.pitch);
    }

    private static boolean isTold(List<Told> told, int distance, int movement) {
        return told.stream().anyMatch(t -> t.distance == distance && t.pitch == movement);
    }

    private static int phantoms(State state) {
        return (int) told(state).stream().filter(t -> !isTrue(state, t)).count();
    }

    private static int missed(State state) {
        List<Told> told = told(state);
        return (int) sources(state).stream().filter(s -> !isTold(told, s.distance, s.movement)).count();
    }

    private static int lostTurns(State state, int distance, int strength, int movement) {
        int found = 0;
        for (int turn = 0; turn < state.spacings.size(); turn++) {
            if (strength >= state.loud && place(state, distance, movement, turn) < state.blind) {
                found++;
            }
        }
        return found;
    }

    int targetOf(int target, int what) {
        if (!in(target, 0, now.targets.size() - 1) || !in(what, 0, 6)) {
            return INVALID;
        }
        Target it = now.targets.get(target);
        return switch (what) {
            case 0 -> it.distance;
            case 1 -> it.strength;
            case 2 -> it.movement + 5;
            case 3 -> it.wall ? 1 : 0;
            case 4 -> isTold(told(now), it.distance, it.movement) ? 1 : 0;
            case 5 -> lostTurns(now, it.distance, it.strength, it.movement);
            default -> (int) ghosts(now).stream().filter(g -> g.one == target || g.other == target).count();
        };
    }

    int ghost(int ghost, int what) {
        if (ghost < 0 || !in(what, 0, 4)) {
            return INVALID;
        }
        if (ghost >= ghosts(now).size()) {
            return NOT_FOUND;
        }
        Source it = ghosts(now).get(ghost);
        return switch (what) {
            case 0 -> it.distance;
            case 1 -> it.strength;
            case 2 -> it.one;
            case 3 -> it.other;
            default -> isTold(told(now), it.distance, 0) ? 1 : 0;
        };
    }

    int echo(int turn, int echo, int what) {
        if (!in(turn, 0, now.spacings.size() - 1) || echo < 0 || !in(what, 0, 3)) {
            return INVALID;
        }
        TreeMap<Integer, int[]> all = echoes(now, turn);
        if (echo >= all.size()) {
            return NOT_FOUND;
        }
        int key = new ArrayList<>(all.keySet()).get(echo);
        return switch (what) {
            case 0 -> (key + 50) / 100;
            case 1 -> key - (key + 50) / 100 * 100 + 5;
            default -> all.get(key)[what - 2];
        };
    }

    int fits(int distance, int pitch, int turn) {
        if (!in(distance, 1, 600) || !in(pitch, -5, 5) || !in(turn, 0, now.spacings.size() - 1)) {
            return INVALID;
        }
        return fit(now, allEchoes(now), distance, pitch, turn);
    }

    int told(int place, int what) {
        if (place < 0 || !in(what, 0, 3)) {
            return INVALID;
        }
        List<Told> all = told(now);
        if (place >= all.size()) {
            return NOT_FOUND;
        }
        Told it = all.get(place);
        return switch (what) {
            case 0 -> it.distance;
            case 1 -> it.pitch + 5;
            case 2 -> isTrue(now, it) ? 1 : 0;
            default -> it.fitting;
        };
    }

    int alike(int way) {
        if (!in(way, 0, 1)) {
            return INVALID;
        }
        for (int difference = now.spacings.get(0);; difference += now.spacings.get(0)) {
            int tried = difference;
            if (now.spacings.stream().allMatch(spacing -> tried % spacing == 0)) {
                return difference;
            }
        }
    }

    int unfold(int first, int second, int way) {
        boolean two = now.spacings.size() > 1;
        if (!in(first, 0, now.spacings.get(0) - 1) || !in(way, 0, 1)
            || !in(second, 0, two ? now.spacings.get(1) - 1 : 0)) {
            return INVALID;
        }
        for (int distance = 0; distance < 2500; distance++) {
            if (distance % now.spacings.get(0) == first && (!two || distance % now.spacings.get(1) == second)) {
                return distance;
            }
        }
        return NOT_FOUND;
    }

    int count(int what) {
        switch (what) {
            case 0:
                return now.targets.size();
            case 1:
                return (int) now.targets.stream().filter(Target::wall).count();
            case 2:
                return ghosts(now).size();
            case 3:
                return now.spacings.size();
            case 4, 5, 6, 7:
                return what - 4 < now.spacings.size() ? now.spacings.get(what - 4) : NOT_FOUND;
            case 8:
                return allEchoes(now).stream().mapToInt(TreeMap::size).sum();
            case 9:
                return sources(now).stream().mapToInt(s -> lostTurns(now, s.distance, s.strength, s.movement)).sum();
            case 10:
                return (int) sources(now).stream().filter(s -> s.strength < now.loud).count();
            case 11:
                return told(now).size();
            case 12:
                return phantoms(now);
            case 13:
                return missed(now);
            case 14:
                return now.blind;
            case 15:
                return now.loud;
            case 16:
                return text().length();
            case 17:
                return pad.length();
            case 18:
                return history.size();
            default:
                return INVALID;
        }
    }

    double truth() {
        int all = told(now).size();
        return all == 0 ? 1.0 : (double) (all - phantoms(now)) / (double) all;
    }

    private State withTurn(int spacing) {
        List<Integer> more = new ArrayList<>(now.spacings);
        more.add(spacing);
        return new State(now.targets, more, now.blind, now.loud);
    }

    int ifTurn(int spacing, int what) {
        if (!in(spacing, 10, 50) || !in(what, 0, 2)) {
            return INVALID;
        }
        if (now.spacings.size() == 4) {
            return LIMIT;
        }
        State then = withTurn(spacing);
        return what == 0 ? told(then).size() : what == 1 ? phantoms(then) : missed(then);
    }

    int bestTurn() {
        if (now.spacings.size() == 4) {
            return LIMIT;
        }
        TreeMap<Integer, Integer> best = new TreeMap<>();
        for (int spacing = 10; spacing <= 50; spacing++) {
            State then = withTurn(spacing);
            best.putIfAbsent(phantoms(then) + missed(then), spacing);
        }
        return best.firstEntry().getValue();
    }

    int ifWall(int distance, int strength, int what) {
        int error = comingError(distance, strength, 0, true);
        if (!in(what, 0, 1) || error == INVALID) {
            return INVALID;
        }
        if (error != 0) {
            return error;
        }
        State then = afterComing(distance, strength, 0, true);
        return what == 0 ? ghosts(then).size() : told(then).size();
    }

    int undo() {
        if (history.isEmpty()) {
            return NOT_POSSIBLE;
        }
        now = history.remove(history.size() - 1);
        return history.size();
    }

    int save() {
        snapshot = now;
        return now.targets.size();
    }

    int restore() {
        if (snapshot == null) {
            return NOT_POSSIBLE;
        }
        change(snapshot);
        return now.targets.size();
    }
}
