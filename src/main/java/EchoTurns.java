/** Echoes that come back behind the next call; the document's promises 1 to 26 say what each call answers. */
public final class EchoTurns {
    public static final int INVALID_ARGUMENT = -1;
    public static final int NOT_POSSIBLE = -2;
    public static final int LIMIT_REACHED = -3;
    public static final int NOT_FOUND = -4;
    public static final int BLIND = 0, LOUD = 1;

    private static final int MOST_TARGETS = 6;
    private static final int MOST_TURNS = 4;
    private static final int MOST_STATES = 4;
    private static final int MOST_SIGNS = 60;
    private static final int FARTHEST = 300;
    private static final int FARTHEST_TOLD = 600;
    private static final int STRONGEST = 99;
    private static final int FASTEST = 5;
    private static final int PITCHES = 2 * FASTEST + 1;
    private static final int SHORTEST = 10;
    private static final int LONGEST = 50;
    private static final int FIRST_SPACING = 20;
    private static final int MOST_BLIND = 9;
    private static final int LAST_NUMBER = 18;

    private static final int NO_FIT = 0;
    private static final int FIT = 1;
    private static final int BLIND_FIT = 2;

    private final Scene scene;
    private final Scene spare;
    private final Scene snapshot;
    private final Scene[] past;
    private final Pad pad;
    private final Reading reading;
    private final Script script;
    private final Ear ear;
    private boolean saved;
    private int states;

    public EchoTurns() {
        scene = new Scene();
        spare = new Scene();
        snapshot = new Scene();
        past = new Scene[MOST_STATES];
        for (int i = 0; i < past.length; i++) {
            past[i] = new Scene();
        }
        pad = new Pad();
        reading = new Reading();
        script = new Script();
        ear = new Ear();
        saved = false;
        states = 0;
    }

    // ---- the scene

    public int target(int distance, int strength, int movement, boolean wall) {
        int error = comingError(distance, strength, movement, wall);
        if (error != 0) {
            return error;
        }
        remember();
        return scene.join(distance, strength, movement, wall);
    }

    public int drop(int target) {
        if (!scene.has(target)) {
            return INVALID_ARGUMENT;
        }
        remember();
        scene.leave(target);
        return scene.targetCount();
    }

    public int go() {
        remember();
        scene.moveAll();
        return scene.targetCount();
    }

    public int spacings(int first, int second, int third, int fourth) {
        if (!isSpacing(first) || !isSpacingOrNone(second) || !isSpacingOrNone(third) || !isSpacingOrNone(fourth)) {
            return INVALID_ARGUMENT;
        }
        if (second == 0 && third != 0 || third == 0 && fourth != 0) {
            return INVALID_ARGUMENT;
        }
        remember();
        scene.forgetTurns();
        scene.addTurn(first);
        scene.addTurn(second);
        scene.addTurn(third);
        scene.addTurn(fourth);
        return scene.turnCount();
    }

    public int set(int what, int value) {
        if (what == BLIND && isWithin(value, 0, MOST_BLIND)) {
            remember();
            return scene.changeBlind(value);
        }
        if (what == LOUD && isWithin(value, 1, STRONGEST)) {
            remember();
            return scene.changeLoud(value);
        }
        return INVALID_ARGUMENT;
    }

    // ---- texts

    public int append(int code) {
        if (!isWithin(code, 33, 126)) {
            return INVALID_ARGUMENT;
        }
        return pad.take((char) code) ? pad.length() : LIMIT_REACHED;
    }

    public int clear() {
        return pad.empty();
    }

    public int fault() {
        return reading.read(pad);
    }

    public int load() {
        if (reading.read(pad) != NOT_FOUND || reading.hasTwins()) {
            return NOT_POSSIBLE;
        }
        if (reading.targetCount() > MOST_TARGETS) {
            return LIMIT_REACHED;
        }
        remember();
        reading.putInto(scene);
        pad.empty();
        return scene.targetCount();
    }

    public int sign(int place) {
        if (place < 0) {
            return INVALID_ARGUMENT;
        }
        script.write(scene);
        return place < script.length() ? script.codeAt(place) : NOT_FOUND;
    }

    // ---- looks; nothing is changed

    public int targetOf(int target, int what) {
        if (!scene.has(target) || !isWithin(what, 0, 6)) {
            return INVALID_ARGUMENT;
        }
        switch (what) {
            case 0:
                return scene.distanceOf(target);
            case 1:
                return scene.strengthOf(target);
            case 2:
                return scene.movementOf(target) + FASTEST;
            case 3:
                return asNumber(scene.isWall(target));
            default:
                return heardOf(target, what);
        }
    }

    public int ghost(int ghost, int what) {
        if (ghost < 0 || !isWithin(what, 0, 4)) {
            return INVALID_ARGUMENT;
        }
        ear.listen(scene);
        if (ghost >= ear.ghostCount()) {
            return NOT_FOUND;
        }
        int source = scene.targetCount() + ghost;
        switch (what) {
            case 0:
                return ear.distanceOf(source);
            case 1:
                return ear.strengthOf(source);
            case 2:
                return ear.lesserWall(source);
            case 3:
                return ear.greaterWall(source);
            default:
                return asNumber(ear.isToldSource(source));
        }
    }

    public int echo(int turn, int echo, int what) {
        if (!scene.hasTurn(turn) || echo < 0 || !isWithin(what, 0, 3)) {
            return INVALID_ARGUMENT;
        }
        ear.listen(scene);
        int code = ear.findEcho(turn, echo);
        if (code < 0) {
            return NOT_FOUND;
        }
        int place = code / PITCHES;
        int pitch = code % PITCHES - FASTEST;
        switch (what) {
            case 0:
                return place;
            case 1:
                return pitch + FASTEST;
            case 2:
                return ear.strengthTogether(turn, place, pitch);
            default:
                return ear.sourcesTogether(turn, place, pitch);
        }
    }

    public int fits(int distance, int pitch, int turn) {
        if (!isWithin(distance, 1, FARTHEST_TOLD) || !isWithin(pitch, -FASTEST, FASTEST) || !scene.hasTurn(turn)) {
            return INVALID_ARGUMENT;
        }
        ear.listen(scene);
        return ear.fitOf(distance, pitch, turn);
    }

    public int told(int place, int what) {
        if (place < 0 || !isWithin(what, 0, 3)) {
            return INVALID_ARGUMENT;
        }
        ear.listen(scene);
        int code = ear.findTold(place);
        if (code < 0) {
            return NOT_FOUND;
        }
        int distance = code / PITCHES;
        int pitch = code % PITCHES - FASTEST;
        switch (what) {
            case 0:
                return distance;
            case 1:
                return pitch + FASTEST;
            case 2:
                return asNumber(ear.isTrue(distance, pitch));
            default:
                return ear.turnsThatFit(distance, pitch);
        }
    }

    public int alike(int way) {
        if (!isWithin(way, 0, 1)) {
            return INVALID_ARGUMENT;
        }
        int difference = scene.spacingOf(0);
        for (int turn = 1; turn < scene.turnCount(); turn++) {
            int spacing = scene.spacingOf(turn);
            difference = way == 0 ? firstCommonMultiple(difference, spacing) : commonMultiple(difference, spacing);
        }
        return difference;
    }

    public int unfold(int first, int second, int way) {
        int spacing = scene.spacingOf(0);
        int other = scene.hasTurn(1) ? scene.spacingOf(1) : 1;
        if (!isWithin(first, 0, spacing - 1) || !isWithin(second, 0, other - 1) || !isWithin(way, 0, 1)) {
            return INVALID_ARGUMENT;
        }
        return way == 0
            ? tryDistances(first, spacing, second, other, 0, 1)
            : tryDistances(first, spacing, second, other, first, spacing);
    }

    public int count(int what) {
        if (!isWithin(what, 0, LAST_NUMBER)) {
            return INVALID_ARGUMENT;
        }
        if (what >= 4 && what <= 7) {
            return scene.hasTurn(what - 4) ? scene.spacingOf(what - 4) : NOT_FOUND;
        }
        if (what == 2 || what >= 8 && what <= 13) {
            return countHeard(what);
        }
        switch (what) {
            case 0:
                return scene.targetCount();
            case 1:
                return scene.wallCount();
            case 3:
                return scene.turnCount();
            case 14:
                return scene.blindBelow();
            case 15:
                return scene.loudFrom();
            case 16:
                script.write(scene);
                return script.length();
            case 17:
                return pad.length();
            default:
                return states;
        }
    }

    public double truth() {
        ear.listen(scene);
        int all = ear.toldCount();
        if (all == 0) {
            return 1.0;
        }
        return (double) ear.trueCount() / (double) all;
    }

    // ---- what would be; nothing is changed

    public int ifTurn(int spacing, int what) {
        if (!isSpacing(spacing) || !isWithin(what, 0, 2)) {
            return INVALID_ARGUMENT;
        }
        if (scene.turnCount() >= MOST_TURNS) {
            return LIMIT_REACHED;
        }
        spare.become(scene);
        spare.addTurn(spacing);
        ear.listen(spare);
        switch (what) {
            case 0:
                return ear.toldCount();
            case 1:
                return ear.toldCount() - ear.trueCount();
            default:
                return ear.missedCount();
        }
    }

    public int bestTurn() {
        if (scene.turnCount() >= MOST_TURNS) {
            return LIMIT_REACHED;
        }
        ear.listen(scene);
        return ear.bestNextSpacing();
    }

    public int ifWall(int distance, int strength, int what) {
        if (!isWithin(what, 0, 1)) {
            return INVALID_ARGUMENT;
        }
        int error = comingError(distance, strength, 0, true);
        if (error != 0) {
            return error;
        }
        spare.become(scene);
        spare.join(distance, strength, 0, true);
        ear.listen(spare);
        return what == 0 ? ear.ghostCount() : ear.toldCount();
    }

    // ---- history, snapshot

    public int undo() {
        if (states < 1 || states > past.length) {
            return NOT_POSSIBLE;
        }
        states--;
        scene.become(past[states]);
        return states;
    }

    public int save() {
        snapshot.become(scene);
        saved = true;
        return scene.targetCount();
    }

    public int restore() {
        if (!saved) {
            return NOT_POSSIBLE;
        }
        remember();
        scene.become(snapshot);
        return scene.targetCount();
    }

    // ---- helpers of the face

    /** Records the state; the oldest one's object is used again, so that no change makes a new one. */
    private void remember() {
        if (states >= MOST_STATES) {
            forgetOldest();
        }
        if (states >= 0 && states < past.length) {
            past[states].become(scene);
            states++;
        }
    }

    private void forgetOldest() {
        for (int i = 1; i < past.length; i++) {
            Scene older = past[i - 1];
            past[i - 1] = past[i];
            past[i] = older;
        }
        states = MOST_STATES - 1;
    }

    /** The error with which such a target would be refused now, or 0. */
    private int comingError(int distance, int strength, int movement, boolean wall) {
        if (!isWithin(distance, 1, FARTHEST) || !isWithin(strength, 1, STRONGEST)
            || !isWithin(movement, -FASTEST, FASTEST) || wall && movement != 0) {
            return INVALID_ARGUMENT;
        }
        if (scene.holds(distance, movement)) {
            return NOT_POSSIBLE;
        }
        return scene.targetCount() >= MOST_TARGETS ? LIMIT_REACHED : 0;
    }

    private int heardOf(int target, int what) {
        ear.listen(scene);
        switch (what) {
            case 4:
                return asNumber(ear.isToldSource(target));
            case 5:
                return ear.lostTurns(target);
            default:
                return ear.ghostsOf(target);
        }
    }

    private int countHeard(int what) {
        ear.listen(scene);
        switch (what) {
            case 2:
                return ear.ghostCount();
            case 8:
                return ear.echoCount();
            case 9:
                return ear.lostCount();
            case 10:
                return ear.faintCount();
            case 11:
                return ear.toldCount();
            case 12:
                return ear.toldCount() - ear.trueCount();
            default:
                return ear.missedCount();
        }
    }

    private static boolean isWithin(int value, int least, int most) {
        return value >= least && value <= most;
    }

    private static boolean isSpacing(int value) {
        return isWithin(value, SHORTEST, LONGEST);
    }

    private static boolean isSpacingOrNone(int value) {
        return value == 0 || isSpacing(value);
    }

    private static int asNumber(boolean yes) {
        return yes ? 1 : 0;
    }

    private static int remainder(int value, int divisor) {
        return divisor > 0 ? value % divisor : 0;
    }

    /** Tries the multiples of the one; what is common to earlier spacings too is a multiple of what was found for them. */
    private static int firstCommonMultiple(int one, int other) {
        int multiple = one;
        for (int tries = 1; tries < other && remainder(multiple, other) != 0; tries++) {
            multiple += one;
        }
        return multiple;
    }

    private static int commonMultiple(int one, int other) {
        int divisor = commonDivisor(one, other);
        return divisor > 0 ? one / divisor * other : 0;
    }

    private static int commonDivisor(int one, int other) {
        int greater = one;
        int lesser = other;
        // The lesser one shrinks at each step, and it begins as a spacing.
        for (int steps = 0; steps <= LONGEST && lesser > 0; steps++) {
            int rest = remainder(greater, lesser);
            greater = lesser;
            lesser = rest;
        }
        return greater;
    }

    /** The least distance that looks like both places; below the product of the spacings each pair of places comes that ever does. */
    private static int tryDistances(int first, int spacing, int second, int other, int from, int step) {
        if (step < 1) {
            return NOT_FOUND;
        }
        for (int distance = from; distance < spacing * other; distance += step) {
            if (remainder(distance, spacing) == first && remainder(distance, other) == second) {
                return distance;
            }
        }
        return NOT_FOUND;
    }

    /** Targets, spacings and settings: all that a state of the history or a snapshot keeps. */
    private static final class Scene {
        private final int[] distances = new int[MOST_TARGETS];
        private final int[] strengths = new int[MOST_TARGETS];
        private final int[] movements = new int[MOST_TARGETS];
        private final boolean[] walls = new boolean[MOST_TARGETS];
        private final int[] spacing = new int[MOST_TURNS];
        private int targets = 0;
        private int turns = 1;
        private int blind = 0;
        private int loud = 1;

        Scene() {
            spacing[0] = FIRST_SPACING;
        }

        void become(Scene other) {
            System.arraycopy(other.distances, 0, distances, 0, MOST_TARGETS);
            System.arraycopy(other.strengths, 0, strengths, 0, MOST_TARGETS);
            System.arraycopy(other.movements, 0, movements, 0, MOST_TARGETS);
            System.arraycopy(other.spacing, 0, spacing, 0, MOST_TURNS);
            // LANGUAGE.md has arraycopy for arrays of numbers alone.
            for (int target = 0; target < MOST_TARGETS; target++) {
                walls[target] = other.walls[target];
            }
            targets = other.targets;
            turns = other.turns;
            blind = other.blind;
            loud = other.loud;
        }

        int targetCount() {
            return targets;
        }

        int turnCount() {
            return turns;
        }

        int blindBelow() {
            return blind;
        }

        int loudFrom() {
            return loud;
        }

        boolean has(int target) {
            return target >= 0 && target < targets && target < MOST_TARGETS;
        }

        boolean hasTurn(int turn) {
            return turn >= 0 && turn < turns && turn < MOST_TURNS;
        }

        int distanceOf(int target) {
            return has(target) ? distances[target] : 0;
        }

        int strengthOf(int target) {
            return has(target) ? strengths[target] : 0;
        }

        int movementOf(int target) {
            return has(target) ? movements[target] : 0;
        }

        boolean isWall(int target) {
            return has(target) && walls[target];
        }

        int spacingOf(int turn) {
            return hasTurn(turn) ? spacing[turn] : 0;
        }

        int wallCount() {
            int found = 0;
            for (int target = 0; target < targets; target++) {
                found += isWall(target) ? 1 : 0;
            }
            return found;
        }

        boolean holds(int distance, int movement) {
            for (int target = 0; target < targets; target++) {
                if (distanceOf(target) == distance && movementOf(target) == movement) {
                    return true;
                }
            }
            return false;
        }

        /** Puts a target behind the others and tells its number; a full scene stays as it is. */
        int join(int distance, int strength, int movement, boolean wall) {
            if (targets >= MOST_TARGETS) {
                return LIMIT_REACHED;
            }
            targets++;
            put(targets - 1, distance, strength, movement, wall);
            return targets - 1;
        }

        private void put(int target, int distance, int strength, int movement, boolean wall) {
            if (has(target)) {
                distances[target] = distance;
                strengths[target] = strength;
                movements[target] = movement;
                walls[target] = wall;
            }
        }

        private void putAs(int from, int to, int distance) {
            put(to, distance, strengthOf(from), movementOf(from), isWall(from));
        }

        void leave(int target) {
            if (!has(target)) {
                return;
            }
            for (int next = target + 1; next < targets; next++) {
                putAs(next, next - 1, distanceOf(next));
            }
            targets--;
        }

        void leaveAll() {
            targets = 0;
        }

        void moveAll() {
            int kept = 0;
            for (int target = 0; target < targets; target++) {
                int distance = distanceOf(target) + movementOf(target) * turns;
                if (isWithin(distance, 1, FARTHEST)) {
                    putAs(target, kept, distance);
                    kept++;
                }
            }
            targets = kept;
        }

        void forgetTurns() {
            turns = 0;
        }

        /** Adds a turn; a spacing of 0 is none. */
        void addTurn(int length) {
            if (length > 0 && turns >= 0 && turns < MOST_TURNS) {
                spacing[turns] = length;
                turns++;
            }
        }

        int changeBlind(int value) {
            int before = blind;
            blind = value;
            return before;
        }

        int changeLoud(int value) {
            int before = loud;
            loud = value;
            return before;
        }
    }

    /** The characters that were appended. */
    private static final class Pad {
        private final char[] signs = new char[MOST_SIGNS];
        private int length = 0;

        int length() {
            return length;
        }

        boolean take(char sign) {
            if (length < 0 || length >= signs.length) {
                return false;
            }
            signs[length] = sign;
            length++;
            return true;
        }

        int empty() {
            int before = length;
            length = 0;
            return before;
        }

        char signAt(int place) {
            return place >= 0 && place < signs.length ? signs[place] : ' ';
        }
    }

    /** Reads a pad sign by sign, and keeps the targets and spacings that it finds. */
    private static final class Reading {
        // The shortest target takes five signs with its comma.
        private static final int MOST_FOUND = MOST_SIGNS / 5;

        private static final int KIND = 0;
        private static final int DISTANCE_BEGIN = 1;
        private static final int DISTANCE = 2;
        private static final int STRENGTH_BEGIN = 3;
        private static final int STRENGTH = 4;
        private static final int MOVEMENT = 5;
        private static final int TARGET_END = 6;
        private static final int SPACING_BEGIN = 7;
        private static final int SPACING = 8;
        private static final int SPACING_END = 9;

        private final int[] distances = new int[MOST_FOUND];
        private final int[] strengths = new int[MOST_FOUND];
        private final int[] movements = new int[MOST_FOUND];
        private final boolean[] walls = new boolean[MOST_FOUND];
        private final int[] spacing = new int[MOST_TURNS];
        private int targets;
        private int turns;
        private int state;
        private int number;
        private int distance;
        private int strength;
        private boolean wall;
        private boolean minus;

        /** The fault of the pad, or NOT_FOUND. */
        int read(Pad pad) {
            targets = 0;
            turns = 0;
            state = KIND;
            for (int place = 0; place < pad.length(); place++) {
                if (!accepts(pad.signAt(place))) {
                    return place;
                }
            }
            if (!isComplete()) {
                return pad.length();
            }
            if (state == STRENGTH) {
                keepTarget(number, 0);
            }
            return NOT_FOUND;
        }

        int targetCount() {
            return targets;
        }

        boolean hasTwins() {
            for (int one = 0; one < targets && one < MOST_FOUND; one++) {
                for (int other = 0; other < one; other++) {
                    if (distances[one] == distances[other] && movements[one] == movements[other]) {
                        return true;
                    }
                }
            }
            return false;
        }

        void putInto(Scene scene) {
            scene.leaveAll();
            for (int i = 0; i < targets && i < MOST_FOUND; i++) {
                scene.join(distances[i], strengths[i], movements[i], walls[i]);
            }
            if (turns > 0) {
                scene.forgetTurns();
            }
            for (int turn = 0; turn < turns && turn < MOST_TURNS; turn++) {
                scene.addTurn(spacing[turn]);
            }
        }

        private boolean isComplete() {
            return state == STRENGTH || state == TARGET_END || state == SPACING_END;
        }

        private boolean accepts(char sign) {
            switch (state) {
                case KIND:
                    return acceptsKind(sign);
                case DISTANCE_BEGIN:
                    return acceptsBegin(sign, 9, DISTANCE);
                case DISTANCE:
                    return sign == '*' ? endDistance() : acceptsDigit(sign, FARTHEST, DISTANCE);
                case STRENGTH_BEGIN:
                    return acceptsBegin(sign, 9, STRENGTH);
                case STRENGTH:
                    return acceptsBehindStrength(sign);
                case MOVEMENT:
                    return acceptsMovement(sign);
                case TARGET_END:
                    return acceptsTargetEnd(sign);
                case SPACING_BEGIN:
                    return acceptsBegin(sign, LONGEST / 10, SPACING);
                case SPACING:
                    return acceptsDigit(sign, LONGEST, SPACING_END) && keepSpacing();
                default:
                    return acceptsSlash(sign);
            }
        }

        private boolean acceptsKind(char sign) {
            wall = sign == 'w';
            state = DISTANCE_BEGIN;
            return sign == 't' || sign == 'w';
        }

        /** The first digit of a number, which is no 0. */
        private boolean acceptsBegin(char sign, int most, int next) {
            number = sign - '0';
            state = next;
            return isWithin(number, 1, most);
        }

        private boolean acceptsDigit(char sign, int most, int next) {
            int digit = sign - '0';
            if (!isWithin(digit, 0, 9) || number * 10 + digit > most) {
                return false;
            }
            number = number * 10 + digit;
            state = next;
            return true;
        }

        private boolean endDistance() {
            distance = number;
            state = STRENGTH_BEGIN;
            return true;
        }

        private boolean acceptsBehindStrength(char sign) {
            if (acceptsDigit(sign, STRONGEST, STRENGTH)) {
                return true;
            }
            if (!wall && (sign == '+' || sign == '-')) {
                strength = number;
                minus = sign == '-';
                state = MOVEMENT;
                return true;
            }
            if (sign != ',' && sign != ';') {
                return false;
            }
            keepTarget(number, 0);
            return acceptsTargetEnd(sign);
        }

        private boolean acceptsMovement(char sign) {
            int digit = sign - '0';
            if (!isWithin(digit, 1, FASTEST)) {
                return false;
            }
            keepTarget(strength, minus ? -digit : digit);
            state = TARGET_END;
            return true;
        }

        private boolean acceptsTargetEnd(char sign) {
            state = sign == ',' ? KIND : SPACING_BEGIN;
            return sign == ',' || sign == ';';
        }

        private boolean acceptsSlash(char sign) {
            state = SPACING_BEGIN;
            return sign == '/' && turns < MOST_TURNS;
        }

        private void keepTarget(int itsStrength, int movement) {
            if (targets >= 0 && targets < MOST_FOUND) {
                distances[targets] = distance;
                strengths[targets] = itsStrength;
                movements[targets] = movement;
                walls[targets] = wall;
                targets++;
            }
        }

        private boolean keepSpacing() {
            if (turns < 0 || turns >= MOST_TURNS) {
                return false;
            }
            spacing[turns] = number;
            turns++;
            return true;
        }
    }

    /** A scene as a text. */
    private static final class Script {
        // Nine signs a target and three a spacing, with what stands behind each.
        private final char[] signs = new char[MOST_TARGETS * 10 + MOST_TURNS * 3];
        private int length = 0;

        int length() {
            return length;
        }

        int codeAt(int place) {
            return place >= 0 && place < signs.length ? signs[place] : 0;
        }

        void write(Scene scene) {
            length = 0;
            if (scene.targetCount() == 0) {
                return;
            }
            for (int target = 0; target < scene.targetCount(); target++) {
                if (target > 0) {
                    put(',');
                }
                writeTarget(scene, target);
            }
            for (int turn = 0; turn < scene.turnCount(); turn++) {
                put(turn == 0 ? ';' : '/');
                writeNumber(scene.spacingOf(turn));
            }
        }

        private void writeTarget(Scene scene, int target) {
            int movement = scene.movementOf(target);
            put(scene.isWall(target) ? 'w' : 't');
            writeNumber(scene.distanceOf(target));
            put('*');
            writeNumber(scene.strengthOf(target));
            if (movement != 0) {
                put(movement < 0 ? '-' : '+');
                writeNumber(movement < 0 ? -movement : movement);
            }
        }

        /** Writes a number from 1 to 999. */
        private void writeNumber(int number) {
            if (number >= 100) {
                put(digitSign(number / 100));
            }
            if (number >= 10) {
                put(digitSign(number / 10));
            }
            put(digitSign(number));
        }

        private static char digitSign(int number) {
            return (char) ('0' + number % 10);
        }

        private void put(char sign) {
            if (length >= 0 && length < signs.length) {
                signs[length] = sign;
                length++;
            }
        }
    }

    /** What is heard of a scene. Its sources are the scene's targets by their numbers, then the ghosts by theirs. */
    private static final class Ear {
        private static final int MOST_SOURCES = MOST_TARGETS + MOST_TARGETS * (MOST_TARGETS - 1) / 2;

        private final int[] distances = new int[MOST_SOURCES];
        private final int[] strengths = new int[MOST_SOURCES];
        private final int[] movements = new int[MOST_SOURCES];
        private final int[] lesserWalls = new int[MOST_SOURCES];
        private final int[] greaterWalls = new int[MOST_SOURCES];
        private final int[] spacing = new int[MOST_TURNS];
        // For each turn and pitch the places with an echo that is heard, a bit each: a place is below 50.
        private final long[] heard = new long[MOST_TURNS * PITCHES];
        private final int[] pitches = new int[PITCHES];
        // Ghosts have the pitch of walls, so there are not more pitches than targets.
        private final int[] open = new int[FARTHEST_TOLD * MOST_TARGETS];
        private int sources;
        private int targets;
        private int turns;
        private int blind;
        private int loud;
        private int pitchCount;
        private int openCount;

        void listen(Scene scene) {
            sources = 0;
            turns = 0;
            blind = scene.blindBelow();
            loud = scene.loudFrom();
            takeTargets(scene);
            targets = sources;
            takeGhosts(scene);
            takePitches();
            for (int turn = 0; turn < scene.turnCount(); turn++) {
                hearTurn(turn, scene.spacingOf(turn));
            }
            turns = scene.turnCount();
        }

        private void takeTargets(Scene scene) {
            for (int target = 0; target < scene.targetCount(); target++) {
                take(scene.distanceOf(target), scene.strengthOf(target), scene.movementOf(target), target, target);
            }
        }

        private void takeGhosts(Scene scene) {
            for (int lesser = 0; lesser < scene.targetCount(); lesser++) {
                for (int greater = lesser + 1; greater < scene.targetCount(); greater++) {
                    if (scene.isWall(lesser) && scene.isWall(greater)) {
                        takeGhost(scene, lesser, greater);
                    }
                }
            }
        }

        private void takeGhost(Scene scene, int lesser, int greater) {
            int near = Math.min(scene.distanceOf(lesser), scene.distanceOf(greater));
            int far = Math.max(scene.distanceOf(lesser), scene.distanceOf(greater));
            int strength = scene.strengthOf(lesser) * scene.strengthOf(greater) / 200;
            if (strength > 0) {
                take(2 * far - near, strength, 0, lesser, greater);
            }
        }

        private void take(int distance, int strength, int movement, int lesser, int greater) {
            if (sources >= 0 && sources < MOST_SOURCES) {
                distances[sources] = distance;
                strengths[sources] = strength;
                movements[sources] = movement;
                lesserWalls[sources] = lesser;
                greaterWalls[sources] = greater;
                sources++;
            }
        }

        /** Only a pitch that sounds can be told, as what is told fits at least one turn. */
        private void takePitches() {
            pitchCount = 0;
            for (int pitch = -FASTEST; pitch <= FASTEST; pitch++) {
                if (sounds(pitch) && pitchCount >= 0 && pitchCount < pitches.length) {
                    pitches[pitchCount] = pitch;
                    pitchCount++;
                }
            }
        }

        private boolean sounds(int pitch) {
            for (int source = 0; source < sources; source++) {
                if (movementOf(source) == pitch && !isFaint(source)) {
                    return true;
                }
            }
            return false;
        }

        private void hearTurn(int turn, int length) {
            if (turn < 0 || turn >= MOST_TURNS) {
                return;
            }
            spacing[turn] = length;
            for (int pitch = 0; pitch < PITCHES; pitch++) {
                heard[turn * PITCHES + pitch] = 0L;
            }
            for (int source = 0; source < sources; source++) {
                int place = placeOf(distanceOf(source), movementOf(source), turn);
                int row = codeOf(turn, movementOf(source));
                if (!isFaint(source) && place >= blind && row >= 0 && row < heard.length) {
                    heard[row] |= 1L << place;
                }
            }
        }

        private boolean has(int source) {
            return source >= 0 && source < sources && source < MOST_SOURCES;
        }

        int distanceOf(int source) {
            return has(source) ? distances[source] : 0;
        }

        int strengthOf(int source) {
            return has(source) ? strengths[source] : 0;
        }

        private int movementOf(int source) {
            return has(source) ? movements[source] : 0;
        }

        int lesserWall(int source) {
            return has(source) ? lesserWalls[source] : 0;
        }

        int greaterWall(int source) {
            return has(source) ? greaterWalls[source] : 0;
        }

        private boolean isFaint(int source) {
            return strengthOf(source) < loud;
        }

        private int placeOf(int distance, int movement, int turn) {
            int length = turn >= 0 && turn < MOST_TURNS ? spacing[turn] : 0;
            int there = distance + movement * turn;
            return there > 0 && length > 0 ? there % length : 0;
        }

        private static int codeOf(int value, int pitch) {
            return value * PITCHES + pitch + FASTEST;
        }

        private boolean isHeard(int turn, int pitch, int place) {
            int row = turn * PITCHES + pitch + FASTEST;
            return row >= 0 && row < heard.length && (heard[row] >> place & 1L) != 0L;
        }

        int ghostCount() {
            return sources - targets;
        }

        int ghostsOf(int wall) {
            int found = 0;
            for (int source = targets; source < sources; source++) {
                if (lesserWall(source) == wall || greaterWall(source) == wall) {
                    found++;
                }
            }
            return found;
        }

        int echoCount() {
            int found = 0;
            for (int row = 0; row < turns * PITCHES && row < heard.length; row++) {
                found += Long.bitCount(heard[row]);
            }
            return found;
        }

        int lostCount() {
            int found = 0;
            for (int source = 0; source < sources; source++) {
                found += lostTurns(source);
            }
            return found;
        }

        int lostTurns(int source) {
            int found = 0;
            for (int turn = 0; turn < turns && !isFaint(source); turn++) {
                if (placeOf(distanceOf(source), movementOf(source), turn) < blind) {
                    found++;
                }
            }
            return found;
        }

        int faintCount() {
            int found = 0;
            for (int source = 0; source < sources; source++) {
                found += isFaint(source) ? 1 : 0;
            }
            return found;
        }

        /** Place and pitch of an echo in one number, or NOT_FOUND. */
        int findEcho(int turn, int echo) {
            int left = echo;
            for (int place = 0; place < LONGEST; place++) {
                for (int pitch = -FASTEST; pitch <= FASTEST; pitch++) {
                    if (isHeard(turn, pitch, place)) {
                        if (left == 0) {
                            return codeOf(place, pitch);
                        }
                        left--;
                    }
                }
            }
            return NOT_FOUND;
        }

        int strengthTogether(int turn, int place, int pitch) {
            int sum = 0;
            for (int source = 0; source < sources; source++) {
                if (isPartOf(source, turn, place, pitch)) {
                    sum += strengthOf(source);
                }
            }
            return sum;
        }

        int sourcesTogether(int turn, int place, int pitch) {
            int found = 0;
            for (int source = 0; source < sources; source++) {
                if (isPartOf(source, turn, place, pitch)) {
                    found++;
                }
            }
            return found;
        }

        private boolean isPartOf(int source, int turn, int place, int pitch) {
            return !isFaint(source) && movementOf(source) == pitch
                && placeOf(distanceOf(source), pitch, turn) == place;
        }

        int fitOf(int distance, int pitch, int turn) {
            int place = placeOf(distance, pitch, turn);
            if (place < blind) {
                return BLIND_FIT;
            }
            return isHeard(turn, pitch, place) ? FIT : NO_FIT;
        }

        /** How many turns a distance fits, or -1 if it neither fits one of them nor is blind in it. */
        int turnsThatFit(int distance, int pitch) {
            int found = 0;
            for (int turn = 0; turn < turns; turn++) {
                int fit = fitOf(distance, pitch, turn);
                if (fit == NO_FIT) {
                    return -1;
                }
                found += fit == FIT ? 1 : 0;
            }
            return found;
        }

        boolean isToldSource(int source) {
            return turnsThatFit(distanceOf(source), movementOf(source)) > 0;
        }

        boolean isTrue(int distance, int pitch) {
            return sourcesAt(distance, pitch, sources) > 0;
        }

        private int sourcesAt(int distance, int pitch, int below) {
            int found = 0;
            for (int source = 0; source < below; source++) {
                if (distanceOf(source) == distance && movementOf(source) == pitch) {
                    found++;
                }
            }
            return found;
        }

        int toldCount() {
            int found = 0;
            for (int distance = 1; distance <= FARTHEST_TOLD; distance++) {
                for (int i = 0; i < pitchCount && i < pitches.length; i++) {
                    if (turnsThatFit(distance, pitches[i]) > 0) {
                        found++;
                    }
                }
            }
            return found;
        }

        /** Distance and pitch of a told one in one number, or NOT_FOUND. */
        int findTold(int place) {
            int left = place;
            for (int distance = 1; distance <= FARTHEST_TOLD; distance++) {
                for (int i = 0; i < pitchCount && i < pitches.length; i++) {
                    if (turnsThatFit(distance, pitches[i]) > 0) {
                        if (left == 0) {
                            return codeOf(distance, pitches[i]);
                        }
                        left--;
                    }
                }
            }
            return NOT_FOUND;
        }

        /** How many told ones are true; sources at the same distance with the same movement are one told one. */
        int trueCount() {
            int found = 0;
            for (int source = 0; source < sources; source++) {
                if (isToldSource(source) && sourcesAt(distanceOf(source), movementOf(source), source) == 0) {
                    found++;
                }
            }
            return found;
        }

        int missedCount() {
            int found = 0;
            for (int source = 0; source < sources; source++) {
                found += isToldSource(source) ? 0 : 1;
            }
            return found;
        }

        /** The spacing for one more turn with the fewest phantoms and missed ones; it leaves the ear with one turn more. */
        int bestNextSpacing() {
            gatherOpen();
            int next = turns;
            turns = next + 1;
            int best = SHORTEST;
            int fewest = -1;
            for (int length = SHORTEST; length <= LONGEST; length++) {
                hearTurn(next, length);
                int wrong = openTold(next) - trueCount() + missedCount();
                if (fewest < 0 || wrong < fewest) {
                    fewest = wrong;
                    best = length;
                }
            }
            return best;
        }

        /** Keeps what no turn rules out yet: only that can be told with one more turn, and all of it is looked at for each spacing. */
        private void gatherOpen() {
            openCount = 0;
            for (int distance = 1; distance <= FARTHEST_TOLD; distance++) {
                for (int i = 0; i < pitchCount && i < pitches.length; i++) {
                    int fitting = turnsThatFit(distance, pitches[i]);
                    if (fitting >= 0 && openCount < open.length) {
                        open[openCount] = codeOf(distance, pitches[i]) * 2 + (fitting > 0 ? 1 : 0);
                        openCount++;
                    }
                }
            }
        }

        private int openTold(int turn) {
            int found = 0;
            for (int i = 0; i < openCount && i < open.length; i++) {
                int code = open[i] / 2;
                int fit = fitOf(code / PITCHES, code % PITCHES - FASTEST, turn);
                if (fit == FIT || fit == BLIND_FIT && open[i] % 2 == 1) {
                    found++;
                }
            }
            return found;
        }
    }
}
