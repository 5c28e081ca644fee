import java.util.Arrays;

/** Rounds with a theodolite in two faces, as ../shared/DOC.md promises them. */
public final class FaceRounds {
    public static final int UNKNOWN = -2000001;
    public static final int BAD_VALUE = -2000002;
    public static final int FULL = -2000003;
    public static final int NOT_POSSIBLE = -2000004;
    public static final int NONE = -2000005;

    private static final int FAULT_BASE = -2000100;

    private static final int CIRCLE = 1296000;
    private static final int HALF_CIRCLE = 648000;
    private static final int SECTOR = 54000;
    private static final int SECTORS = 24;

    private static final int MOST_SET_UPS = 4;
    private static final int MOST_ROUNDS = 6;
    private static final int TARGETS = 6;
    private static final int FACES = 2;
    private static final int ALL_FACES = MOST_SET_UPS * MOST_ROUNDS * FACES;

    private static final int FIRST_LIMIT = 20;
    private static final int MOST_LIMIT = 600;
    private static final int MOST_OFFSET = 99;
    private static final int FIRST_DISTANCE = 100;
    private static final int MOST_DISTANCE = 9999;
    private static final int MOST_STATES = 4;

    private static final int MOST_CHARACTERS = 60;
    // The shortest pointing, "0l0:0:0", and its ";" take 8 characters.
    private static final int MOST_IN_TEXT = (MOST_CHARACTERS + 1) / 8;

    /** In place of a place, a target, a fault, a closing or a direction that there is not. */
    private static final int MISSING = -1;

    private static final int USED = 0;
    private static final int NOT_IN_FACE_0 = 1;
    private static final int NOT_IN_FACE_1 = 2;
    private static final int STRUCK = 3;
    private static final int BAD_TARGET_0 = 4;

    private static final int[] SINES = {
        0, 259, 500, 707, 866, 966, 1000, 966, 866, 707, 500, 259,
        0, -259, -500, -707, -866, -966, -1000, -966, -866, -707, -500, -259
    };

    private final State state = new State();
    private final State snapshot = new State();
    private boolean snapshotTaken = false;
    private final History history = new History();
    private final PointingText text = new PointingText();
    private final Reckoning reckoning = new Reckoning();

    public FaceRounds() {
    }

    // ---- set-ups, rounds, pointings

    public int setUp() {
        if (state.setUps >= MOST_SET_UPS) {
            return FULL;
        }
        history.record(state);
        state.setUps++;
        return state.setUps - 1;
    }

    public int begin(int setUp) {
        if (!state.hasSetUp(setUp)) {
            return UNKNOWN;
        }
        if (state.rounds[setUp] >= MOST_ROUNDS) {
            return FULL;
        }
        history.record(state);
        state.rounds[setUp]++;
        return state.rounds[setUp] - 1;
    }

    public int point(int setUp, int round, int target, int face, int reading) {
        if (!state.hasRound(setUp, round) || !isTarget(target)) {
            return UNKNOWN;
        }
        if (!isFace(face) || !isReading(reading)) {
            return BAD_VALUE;
        }
        int row = rowOf(setUp, round, face);
        if (!state.canTake(row, target)) {
            return NOT_POSSIBLE;
        }
        history.record(state);
        state.add(row, target, reading);
        return state.pointings[row];
    }

    public int pointAll(int setUp, int round) {
        if (!state.hasRound(setUp, round)) {
            return UNKNOWN;
        }
        int fault = text.readPointings();
        if (fault != MISSING) {
            return FAULT_BASE - fault;
        }
        if (!canTakeText(setUp, round)) {
            return NOT_POSSIBLE;
        }
        history.record(state);
        for (int i = 0; i < text.found; i++) {
            state.add(rowOf(setUp, round, text.faces[i]), text.targets[i], text.readings[i]);
        }
        return text.found;
    }

    public int close(int setUp, int round, int face, int reading) {
        if (!state.hasRound(setUp, round)) {
            return UNKNOWN;
        }
        if (!isFace(face) || !isReading(reading)) {
            return BAD_VALUE;
        }
        int row = rowOf(setUp, round, face);
        if (state.isClosed(row) || state.pointings[row] == 0) {
            return NOT_POSSIBLE;
        }
        history.record(state);
        state.closings[row] = reading;
        return state.driftOf(row);
    }

    public int strike(int setUp, int round, int target, int face, boolean struck) {
        if (!state.hasRound(setUp, round)) {
            return UNKNOWN;
        }
        if (!isFace(face)) {
            return BAD_VALUE;
        }
        int row = rowOf(setUp, round, face);
        int place = state.placeOf(row, target);
        if (place == MISSING) {
            return UNKNOWN;
        }
        if (state.struck[row * TARGETS + place] == struck) {
            return NONE;
        }
        history.record(state);
        state.struck[row * TARGETS + place] = struck;
        return state.struckInRound(setUp, round);
    }

    public int wipe(int setUp, int round, int target) {
        if (!state.hasRound(setUp, round) || !isTarget(target)) {
            return UNKNOWN;
        }
        int wiped = 0;
        for (int face = 0; face < FACES; face++) {
            int row = rowOf(setUp, round, face);
            int place = state.placeOf(row, target);
            if (place == 0 && state.isClosed(row)) {
                return NOT_POSSIBLE;
            }
            if (place != MISSING) {
                wiped++;
            }
        }
        if (wiped == 0) {
            return NONE;
        }
        history.record(state);
        for (int face = 0; face < FACES; face++) {
            state.remove(rowOf(setUp, round, face), target);
        }
        return wiped;
    }

    public int clean(int setUp) {
        if (!state.hasSetUp(setUp)) {
            return UNKNOWN;
        }
        reckoning.reckon(state, setUp);
        int worst = reckoning.worst(state.limit);
        if (worst == MISSING) {
            return NONE;
        }
        history.record(state);
        int cleaned = 0;
        while (worst != MISSING && cleaned < MOST_ROUNDS * TARGETS) {
            state.strikeBoth(setUp, worst / TARGETS, worst % TARGETS);
            cleaned++;
            reckoning.reckon(state, setUp);
            worst = reckoning.worst(state.limit);
        }
        return cleaned;
    }

    // ---- settings

    public int setLimit(int limit) {
        if (limit < 1 || limit > MOST_LIMIT) {
            return BAD_VALUE;
        }
        int previous = state.limit;
        if (previous == limit) {
            return NONE;
        }
        history.record(state);
        state.limit = limit;
        return previous;
    }

    public int centre(int setUp, int offset, int sector) {
        if (!state.hasSetUp(setUp)) {
            return UNKNOWN;
        }
        if (offset < 0 || offset > MOST_OFFSET || sector < 0 || sector >= SECTORS) {
            return BAD_VALUE;
        }
        int previousOffset = state.offsets[setUp];
        int previousSector = state.sectors[setUp];
        if (previousOffset == offset && previousSector == sector) {
            return NONE;
        }
        history.record(state);
        state.offsets[setUp] = offset;
        state.sectors[setUp] = sector;
        return previousOffset * 100 + previousSector;
    }

    public int setDistance(int target, int distance) {
        if (!isTarget(target)) {
            return UNKNOWN;
        }
        if (distance < 1 || distance > MOST_DISTANCE) {
            return BAD_VALUE;
        }
        int previous = state.distances[target];
        if (previous == distance) {
            return NONE;
        }
        history.record(state);
        state.distances[target] = distance;
        return previous;
    }

    // ---- texts

    public int type(char character) {
        if (text.length >= MOST_CHARACTERS) {
            return FULL;
        }
        text.characters[text.length] = character;
        text.length++;
        return text.length;
    }

    public int clearText() {
        int previous = text.length;
        text.length = 0;
        return previous;
    }

    // ---- history

    public int undo() {
        if (history.depth == 0) {
            return NONE;
        }
        history.takeBack(state);
        return history.depth;
    }

    public int keep() {
        snapshot.copyFrom(state);
        snapshotTaken = true;
        return state.setUps;
    }

    public int restore() {
        if (!snapshotTaken) {
            return NONE;
        }
        history.record(state);
        state.copyFrom(snapshot);
        return state.setUps;
    }

    // ---- what is told

    public int pointing(int setUp, int round, int face, int place, int what) {
        if (!state.hasRound(setUp, round)) {
            return UNKNOWN;
        }
        if (!isFace(face) || place < 0 || what < 0 || what > 3) {
            return BAD_VALUE;
        }
        int row = rowOf(setUp, round, face);
        if (place >= state.pointings[row]) {
            return NONE;
        }
        int index = row * TARGETS + place;
        switch (what) {
            case 0:
                return state.targets[index];
            case 1:
                return state.readings[index];
            case 2:
                return state.struck[index] ? 1 : 0;
            default:
                return state.corrected(row, place);
        }
    }

    public int round(int setUp, int round, int what) {
        if (!state.hasRound(setUp, round)) {
            return UNKNOWN;
        }
        if (what < 0 || what > 7) {
            return BAD_VALUE;
        }
        reckoning.reckon(state, setUp);
        switch (what) {
            case 0:
            case 1:
                return state.pointings[rowOf(setUp, round, what)];
            case 2:
            case 3:
                return toldDrift(rowOf(setUp, round, what - 2));
            case 4:
                return reckoning.usedTargets[round];
            case 5:
                return state.struckInRound(setUp, round);
            case 6:
                return reckoning.meanError(round);
            default:
                return reckoning.badTargets(round, state.limit);
        }
    }

    public int reduced(int setUp, int round, int target, int what) {
        if (!state.hasRound(setUp, round) || !isTarget(target)) {
            return UNKNOWN;
        }
        if (what < 0 || what > 3) {
            return BAD_VALUE;
        }
        if (what == 3) {
            return state.whyNotUsed(setUp, round, target);
        }
        reckoning.reckon(state, setUp);
        if (!reckoning.isUsed(round, target)) {
            return NONE;
        }
        int index = round * TARGETS + target;
        switch (what) {
            case 0:
                return reckoning.reducedDirections[index];
            case 1:
                return reckoning.left[index];
            default:
                return reckoning.errors[index];
        }
    }

    public int direction(int setUp, int target, int what) {
        if (!state.hasSetUp(setUp) || !isTarget(target)) {
            return UNKNOWN;
        }
        if (what < 0 || what > 4) {
            return BAD_VALUE;
        }
        reckoning.reckon(state, setUp);
        if (what == 4) {
            return reckoning.roundsOf(target);
        }
        if (!reckoning.hasDirection(target)) {
            return NONE;
        }
        switch (what) {
            case 0:
                return reckoning.directions[target];
            case 1:
                return correction(setUp, target);
            case 2:
                return centredDirection(setUp, target);
            default:
                return reckoning.mostLeft(target);
        }
    }

    public int angle(int setUp, int one, int other, boolean centred) {
        if (!state.hasSetUp(setUp) || !isTarget(one) || !isTarget(other)) {
            return UNKNOWN;
        }
        reckoning.reckon(state, setUp);
        if (!reckoning.hasDirection(one) || !reckoning.hasDirection(other)) {
            return NONE;
        }
        if (centred) {
            return Math.floorMod(centredDirection(setUp, other) - centredDirection(setUp, one), CIRCLE);
        }
        return reckoning.angleBetween(one, other);
    }

    public int byAngles(int setUp, int target) {
        if (!state.hasSetUp(setUp) || !isTarget(target)) {
            return UNKNOWN;
        }
        reckoning.reckon(state, setUp);
        if (!reckoning.hasDirection(target)) {
            return NONE;
        }
        return reckoning.sumOfAngles(target);
    }

    public int count(int what) {
        switch (what) {
            case 0:
                return state.setUps;
            case 1:
                return state.allRounds();
            case 2:
                return state.allPointings();
            case 3:
                return state.allStruck();
            case 4:
                return allBad();
            case 5:
                return state.limit;
            case 6:
                return state.allClosings();
            case 7:
                return history.depth;
            case 8:
                return text.length;
            default:
                return BAD_VALUE;
        }
    }

    public int centring(int setUp, boolean sector) {
        if (!state.hasSetUp(setUp)) {
            return UNKNOWN;
        }
        return sector ? state.sectors[setUp] : state.offsets[setUp];
    }

    // ---- helpers

    private static boolean isTarget(int target) {
        return target >= 0 && target < TARGETS;
    }

    private static boolean isFace(int face) {
        return face >= 0 && face < FACES;
    }

    private static boolean isReading(int reading) {
        return reading >= 0 && reading < CIRCLE;
    }

    /** The number of a face of a round in the rows of a state. */
    private static int rowOf(int setUp, int round, int face) {
        return (setUp * MOST_ROUNDS + round) * FACES + face;
    }

    private static int nearZero(int angle) {
        int turned = angle % CIRCLE;
        if (turned > HALF_CIRCLE) {
            return turned - CIRCLE;
        }
        return turned <= -HALF_CIRCLE ? turned + CIRCLE : turned;
    }

    private boolean canTakeText(int setUp, int round) {
        // A text may name a target twice in a face: the second one must fail.
        int seen = 0;
        for (int i = 0; i < text.found; i++) {
            int bit = 1 << (text.faces[i] * TARGETS + text.targets[i]);
            int row = rowOf(setUp, round, text.faces[i]);
            if ((seen & bit) != 0 || !state.canTake(row, text.targets[i])) {
                return false;
            }
            seen |= bit;
        }
        return true;
    }

    private int toldDrift(int row) {
        return state.isClosed(row) ? state.driftOf(row) : NONE;
    }

    private int allBad() {
        int bad = 0;
        for (int setUp = 0; setUp < state.setUps; setUp++) {
            reckoning.reckon(state, setUp);
            for (int round = 0; round < state.rounds[setUp]; round++) {
                bad += Integer.bitCount(reckoning.badTargets(round, state.limit));
            }
        }
        return bad;
    }

    /** The correction by the centring; the set-up is reckoned, the target has a direction. */
    private int correction(int setUp, int target) {
        int toCentre = state.sectors[setUp] * SECTOR - reckoning.directions[target];
        int sector = Math.floorMod(toCentre + SECTOR / 2, CIRCLE) / SECTOR;
        long across = (long) state.offsets[setUp] * SINES[sector] * 206265L;
        // The division of Java cuts toward 0, as is asked here alone.
        return (int) (across / (state.distances[target] * 1000000L));
    }

    private int centredDirection(int setUp, int target) {
        // Where a target has a direction the target 0 has one, too.
        int turned = reckoning.directions[target] + correction(setUp, target) - correction(setUp, 0);
        return Math.floorMod(turned, CIRCLE);
    }

    /** All that undo and the snapshot bring back. */
    private static final class State {
        int setUps = 0;
        int limit = FIRST_LIMIT;
        final int[] rounds = new int[MOST_SET_UPS];
        final int[] offsets = new int[MOST_SET_UPS];
        final int[] sectors = new int[MOST_SET_UPS];
        final int[] distances = new int[TARGETS];
        // By the number of a face of a round, see rowOf.
        final int[] pointings = new int[ALL_FACES];
        final int[] closings = new int[ALL_FACES];
        // By that number times TARGETS, plus the place in the face.
        final int[] targets = new int[ALL_FACES * TARGETS];
        final int[] readings = new int[ALL_FACES * TARGETS];
        final boolean[] struck = new boolean[ALL_FACES * TARGETS];

        State() {
            Arrays.fill(distances, FIRST_DISTANCE);
            Arrays.fill(closings, MISSING);
        }

        void copyFrom(State other) {
            setUps = other.setUps;
            limit = other.limit;
            System.arraycopy(other.rounds, 0, rounds, 0, MOST_SET_UPS);
            System.arraycopy(other.offsets, 0, offsets, 0, MOST_SET_UPS);
            System.arraycopy(other.sectors, 0, sectors, 0, MOST_SET_UPS);
            System.arraycopy(other.distances, 0, distances, 0, TARGETS);
            System.arraycopy(other.pointings, 0, pointings, 0, ALL_FACES);
            System.arraycopy(other.closings, 0, closings, 0, ALL_FACES);
            System.arraycopy(other.targets, 0, targets, 0, ALL_FACES * TARGETS);
            System.arraycopy(other.readings, 0, readings, 0, ALL_FACES * TARGETS);
            System.arraycopy(other.struck, 0, struck, 0, ALL_FACES * TARGETS);
        }

        boolean hasSetUp(int setUp) {
            return setUp >= 0 && setUp < setUps;
        }

        boolean hasRound(int setUp, int round) {
            return hasSetUp(setUp) && round >= 0 && round < rounds[setUp];
        }

        boolean isClosed(int row) {
            return closings[row] != MISSING;
        }

        int placeOf(int row, int target) {
            for (int place = 0; place < pointings[row]; place++) {
                if (targets[row * TARGETS + place] == target) {
                    return place;
                }
            }
            return MISSING;
        }

        /** Without two pointings to one target a face never has more than TARGETS. */
        boolean canTake(int row, int target) {
            return !isClosed(row) && placeOf(row, target) == MISSING;
        }

        void add(int row, int target, int reading) {
            if (pointings[row] >= TARGETS) {
                return;
            }
            int index = row * TARGETS + pointings[row];
            targets[index] = target;
            readings[index] = reading;
            struck[index] = false;
            pointings[row]++;
        }

        void remove(int row, int target) {
            int place = placeOf(row, target);
            if (place == MISSING) {
                return;
            }
            pointings[row]--;
            for (int index = row * TARGETS + place; index < row * TARGETS + pointings[row]; index++) {
                targets[index] = targets[index + 1];
                readings[index] = readings[index + 1];
                struck[index] = struck[index + 1];
            }
        }

        void strikeBoth(int setUp, int round, int target) {
            for (int face = 0; face < FACES; face++) {
                int row = rowOf(setUp, round, face);
                int place = placeOf(row, target);
                if (place != MISSING) {
                    struck[row * TARGETS + place] = true;
                }
            }
        }

        /** The drift of a face that is closed. */
        int driftOf(int row) {
            return nearZero(closings[row] - readings[row * TARGETS]);
        }

        int corrected(int row, int place) {
            if (place < 0 || place >= pointings[row]) {
                return 0;
            }
            int reading = readings[row * TARGETS + place];
            if (!isClosed(row)) {
                return reading;
            }
            return reading - Math.floorDiv(driftOf(row) * place, pointings[row]);
        }

        int whyNotUsed(int setUp, int round, int target) {
            int own = ownReason(setUp, round, target);
            if (own != USED || target == 0) {
                return own;
            }
            return ownReason(setUp, round, 0) == USED ? USED : BAD_TARGET_0;
        }

        private int ownReason(int setUp, int round, int target) {
            int row0 = rowOf(setUp, round, 0);
            int row1 = rowOf(setUp, round, 1);
            int place0 = placeOf(row0, target);
            int place1 = placeOf(row1, target);
            if (place0 == MISSING) {
                return NOT_IN_FACE_0;
            }
            if (place1 == MISSING) {
                return NOT_IN_FACE_1;
            }
            boolean either = struck[row0 * TARGETS + place0] || struck[row1 * TARGETS + place1];
            return either ? STRUCK : USED;
        }

        private int struckIn(int row) {
            int all = 0;
            for (int place = 0; place < pointings[row]; place++) {
                if (struck[row * TARGETS + place]) {
                    all++;
                }
            }
            return all;
        }

        int struckInRound(int setUp, int round) {
            return struckIn(rowOf(setUp, round, 0)) + struckIn(rowOf(setUp, round, 1));
        }

        // The faces of rounds that have not begun are empty and open.

        int allRounds() {
            int all = 0;
            for (int setUp = 0; setUp < setUps; setUp++) {
                all += rounds[setUp];
            }
            return all;
        }

        int allPointings() {
            int all = 0;
            for (int row = 0; row < ALL_FACES; row++) {
                all += pointings[row];
            }
            return all;
        }

        int allStruck() {
            int all = 0;
            for (int row = 0; row < ALL_FACES; row++) {
                all += struckIn(row);
            }
            return all;
        }

        int allClosings() {
            int all = 0;
            for (int row = 0; row < ALL_FACES; row++) {
                if (isClosed(row)) {
                    all++;
                }
            }
            return all;
        }
    }

    /** The latest states; their rows are made once and used again. */
    private static final class History {
        final State[] states = new State[MOST_STATES];
        int depth = 0;

        History() {
            for (int i = 0; i < MOST_STATES; i++) {
                states[i] = new State();
            }
        }

        void record(State now) {
            if (depth == MOST_STATES) {
                dropOldest();
            }
            states[depth].copyFrom(now);
            depth++;
        }

        void takeBack(State now) {
            if (depth == 0) {
                return;
            }
            depth--;
            now.copyFrom(states[depth]);
        }

        private void dropOldest() {
            State oldest = states[0];
            for (int i = 1; i < MOST_STATES; i++) {
                states[i - 1] = states[i];
            }
            states[MOST_STATES - 1] = oldest;
            depth--;
        }
    }

    /** The text that is typed, and the pointings that were read from it last. */
    private static final class PointingText {
        final char[] characters = new char[MOST_CHARACTERS];
        int length = 0;
        final int[] targets = new int[MOST_IN_TEXT];
        final int[] faces = new int[MOST_IN_TEXT];
        final int[] readings = new int[MOST_IN_TEXT];
        int found = 0;
        private int at = 0;

        /** Reads all pointings; answers the fault, or MISSING without one. */
        int readPointings() {
            at = 0;
            found = 0;
            // One more than fit in whole, so that the fault of the last one is found.
            for (int i = 0; i <= MOST_IN_TEXT; i++) {
                if (!readPointing()) {
                    return at;
                }
                if (at == length) {
                    return MISSING;
                }
                if (!skip(';')) {
                    return at;
                }
            }
            return at;
        }

        /** Each of the read.. functions leaves "at" on the fault, if it meets one. */
        private boolean readPointing() {
            int target = readTarget();
            if (target == MISSING) {
                return false;
            }
            int face = readFace();
            if (face == MISSING) {
                return false;
            }
            int reading = readAngle();
            if (reading == MISSING || found >= MOST_IN_TEXT) {
                return false;
            }
            targets[found] = target;
            faces[found] = face;
            readings[found] = reading;
            found++;
            return true;
        }

        private int readTarget() {
            int target = digit();
            if (target == MISSING || target >= TARGETS) {
                return MISSING;
            }
            at++;
            return target;
        }

        private int readFace() {
            if (skip('l')) {
                return 0;
            }
            return skip('r') ? 1 : MISSING;
        }

        private int readAngle() {
            int degrees = readNumber(359);
            if (degrees == MISSING || !skip(':')) {
                return MISSING;
            }
            int minutes = readNumber(59);
            if (minutes == MISSING || !skip(':')) {
                return MISSING;
            }
            int seconds = readNumber(59);
            if (seconds == MISSING) {
                return MISSING;
            }
            return (degrees * 60 + minutes) * 60 + seconds;
        }

        /** Stops before a digit that is too much: no sign that may follow a number is a digit. */
        private int readNumber(int most) {
            int number = digit();
            if (number == MISSING) {
                return MISSING;
            }
            at++;
            while (at < length && number > 0) {
                int next = digit();
                if (next == MISSING || number * 10 + next > most) {
                    return number;
                }
                number = number * 10 + next;
                at++;
            }
            return number;
        }

        private int digit() {
            if (at >= length || characters[at] < '0' || characters[at] > '9') {
                return MISSING;
            }
            return characters[at] - '0';
        }

        private boolean skip(char sign) {
            if (at >= length || characters[at] != sign) {
                return false;
            }
            at++;
            return true;
        }
    }

    /** What follows from the pointings of one set-up; reckoned anew for each call. */
    private static final class Reckoning {
        private int rounds = 0;
        final int[] usedTargets = new int[MOST_ROUNDS];
        // By the round times TARGETS, plus the target; only where it is used.
        final int[] reducedDirections = new int[MOST_ROUNDS * TARGETS];
        final int[] errors = new int[MOST_ROUNDS * TARGETS];
        final int[] left = new int[MOST_ROUNDS * TARGETS];
        final int[] directions = new int[TARGETS];

        void reckon(State state, int setUp) {
            rounds = state.rounds[setUp];
            for (int round = 0; round < rounds; round++) {
                reckonRound(state, setUp, round);
            }
            for (int target = 0; target < TARGETS; target++) {
                reckonDirection(target);
            }
        }

        private void reckonRound(State state, int setUp, int round) {
            int row0 = rowOf(setUp, round, 0);
            int row1 = rowOf(setUp, round, 1);
            usedTargets[round] = 0;
            // The target 0 comes first, and is used where any other one is.
            int meanOf0 = 0;
            for (int target = 0; target < TARGETS; target++) {
                if (state.whyNotUsed(setUp, round, target) != USED) {
                    continue;
                }
                int inFace0 = state.corrected(row0, state.placeOf(row0, target));
                int inFace1 = state.corrected(row1, state.placeOf(row1, target));
                int apart = nearZero(inFace1 - HALF_CIRCLE - inFace0);
                int mean = inFace0 + Math.floorDiv(apart, 2);
                if (target == 0) {
                    meanOf0 = mean;
                }
                usedTargets[round] |= 1 << target;
                errors[round * TARGETS + target] = Math.floorDiv(-apart, 2);
                reducedDirections[round * TARGETS + target] = Math.floorMod(mean - meanOf0, CIRCLE);
            }
        }

        private void reckonDirection(int target) {
            int used = 0;
            int first = 0;
            int differences = 0;
            for (int round = 0; round < rounds; round++) {
                if (!isUsed(round, target)) {
                    continue;
                }
                int here = reducedDirections[round * TARGETS + target];
                if (used == 0) {
                    first = here;
                }
                differences += nearZero(here - first);
                used++;
            }
            if (used == 0) {
                directions[target] = MISSING;
                return;
            }
            directions[target] = Math.floorMod(first + Math.floorDiv(differences, used), CIRCLE);
            reckonLeft(target);
        }

        private void reckonLeft(int target) {
            for (int round = 0; round < rounds; round++) {
                if (isUsed(round, target)) {
                    int index = round * TARGETS + target;
                    left[index] = nearZero(reducedDirections[index] - directions[target]);
                }
            }
        }

        boolean isUsed(int round, int target) {
            return (usedTargets[round] & 1 << target) != 0;
        }

        boolean hasDirection(int target) {
            return directions[target] != MISSING;
        }

        int roundsOf(int target) {
            int set = 0;
            for (int round = 0; round < rounds; round++) {
                if (isUsed(round, target)) {
                    set |= 1 << round;
                }
            }
            return set;
        }

        private int leftWithoutSign(int round, int target) {
            return isUsed(round, target) ? Math.abs(left[round * TARGETS + target]) : 0;
        }

        int mostLeft(int target) {
            int most = 0;
            for (int round = 0; round < rounds; round++) {
                most = Math.max(most, leftWithoutSign(round, target));
            }
            return most;
        }

        int badTargets(int round, int limit) {
            int set = 0;
            for (int target = 0; target < TARGETS; target++) {
                if (leftWithoutSign(round, target) > limit) {
                    set |= 1 << target;
                }
            }
            return set;
        }

        /** The round times TARGETS plus the target that has the most left, if it is bad. */
        int worst(int limit) {
            int worst = MISSING;
            int most = limit;
            for (int round = 0; round < rounds; round++) {
                for (int target = 0; target < TARGETS; target++) {
                    int here = leftWithoutSign(round, target);
                    if (here > most) {
                        most = here;
                        worst = round * TARGETS + target;
                    }
                }
            }
            return worst;
        }

        int meanError(int round) {
            int used = Integer.bitCount(usedTargets[round]);
            if (used == 0) {
                return NONE;
            }
            int sum = 0;
            for (int target = 0; target < TARGETS; target++) {
                if (isUsed(round, target)) {
                    sum += errors[round * TARGETS + target];
                }
            }
            return Math.floorDiv(sum, used);
        }

        int angleBetween(int one, int other) {
            return Math.floorMod(directions[other] - directions[one], CIRCLE);
        }

        /** The angles from neighbour to neighbour; the target 0, whose direction is 0, is the first. */
        int sumOfAngles(int target) {
            int sum = 0;
            int at = 0;
            for (int step = 0; step < TARGETS && at != target; step++) {
                int next = neighbour(at);
                if (next == MISSING) {
                    return sum;
                }
                sum += angleBetween(at, next);
                at = next;
            }
            return sum;
        }

        private int neighbour(int target) {
            int next = MISSING;
            for (int other = 0; other < TARGETS; other++) {
                boolean behind = hasDirection(other) && isBehind(other, target);
                if (behind && (next == MISSING || directions[other] < directions[next])) {
                    next = other;
                }
            }
            return next;
        }

        private boolean isBehind(int other, int target) {
            if (directions[other] == directions[target]) {
                return other > target;
            }
            return directions[other] > directions[target];
        }
    }
}
