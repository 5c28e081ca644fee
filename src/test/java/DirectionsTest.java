/** Promises 9, 19 to 24: clean, round, reduced, direction, angle, byAngles, count. */
public final class DirectionsTest {
    private static final Due due = new Due();
    private static final int NONE = FaceRounds.NONE;
    private static final int UNKNOWN = FaceRounds.UNKNOWN;
    private static final int BAD_VALUE = FaceRounds.BAD_VALUE;

    public static void main(String[] args) {
        clean();
        cleanTies();
        cleanAll();
        cleanAtTheLimit();
        cleanWithoutSign();
        cleanWrongly();
        round();
        sets();
        roundErrors();
        meanErrors();
        reducedDirections();
        reducedBothFaces();
        driftIsTakenOff();
        reasons();
        reducedErrors();
        directionOverRounds();
        directionFromTheFirstRound();
        directionAcrossZero();
        directionOpposite();
        directionErrors();
        corrections();
        correctionSectors();
        centredDirections();
        angles();
        byAngles();
        counts();
        due.end();
    }

    private static void clean() {
        due.in("promise 9");
        // Only the round 1 is bad in truth: it draws the mean away from the others.
        FaceRounds x = Books.withTarget1(1000, 1100, 1004, 1000);
        due.of("direction", x.direction(0, 1, 0), 1026);
        int[] left = {-26, 74, -22, -26};
        for (int round = 0; round < 4; round++) {
            due.of("left in round " + round, x.reduced(0, round, 1, 1), left[round]);
            due.of("bad in round " + round, x.round(0, round, 7), 2);
        }
        due.of("count(4)", x.count(4), 4);
        due.of("clean(0)", x.clean(0), 1);
        due.of("direction", x.direction(0, 1, 0), 1001);
        due.of("rounds", x.direction(0, 1, 4), 13);
        due.of("count(3)", x.count(3), 2);
        due.of("struck in round 1", x.round(0, 1, 5), 2);
        due.of("struck is target 1, face 0", x.pointing(0, 1, 0, 1, 2), 1);
        due.of("struck is target 1, face 1", x.pointing(0, 1, 1, 1, 2), 1);
        due.of("count(4)", x.count(4), 0);
        due.of("clean(0)", x.clean(0), NONE);
        due.of("undo()", x.undo(), 3);
        due.of("count(3)", x.count(3), 0);
        due.of("count(4)", x.count(4), 4);
    }

    private static void cleanTies() {
        due.in("promise 9, ties");
        FaceRounds x = Books.withTarget1(1000, 1050);
        due.of("left", x.reduced(0, 0, 1, 1), -25);
        due.of("left", x.reduced(0, 1, 1, 1), 25);
        due.of("clean(0)", x.clean(0), 1);
        due.of("the lowest round is struck", x.direction(0, 1, 4), 2);
        due.of("direction", x.direction(0, 1, 0), 1050);

        x = Books.withTarget1(0, 300, 600, 900);
        Books.sight(x, 0, 0, 5, 7000);
        Books.sight(x, 0, 3, 5, 607900);
        due.of("one after the other", x.clean(0), 4);
        due.of("target 1 is left in round", x.direction(0, 1, 4), 8);
        due.of("target 5 is left in round", x.direction(0, 5, 4), 8);
    }

    private static void cleanAll() {
        due.in("promise 9, as many as can be");
        FaceRounds x = Books.withTarget1(0, 300, 600, 900, 1200, 1500);
        for (int round = 0; round < 6; round++) {
            for (int target = 2; target < 6; target++) {
                Books.sight(x, 0, round, target, round * 200000 + target * 5000 + round * 300);
            }
        }
        due.of("count(4)", x.count(4), 30);
        due.of("clean(0)", x.clean(0), 25);
        due.of("count(3)", x.count(3), 50);
        for (int target = 1; target < 6; target++) {
            due.of("rounds of target " + target, x.direction(0, target, 4), 32);
        }
        due.of("rounds of target 0", x.direction(0, 0, 4), 63);
        due.of("undo()", x.undo(), 3);
        due.of("count(3)", x.count(3), 0);
    }

    private static void cleanAtTheLimit() {
        due.in("promise 9, limit");
        FaceRounds x = Books.withTarget1(1000, 1040);
        due.of("20 is not greater than 20", x.clean(0), NONE);
        due.of("count(4)", x.count(4), 0);
        x.setLimit(19);
        due.of("count(4)", x.count(4), 2);
        x.setLimit(20);
        due.of("count(7)", x.count(7), 4);
        x = Books.withTarget1(1000, 1041);
        due.of("-20 is not bad", x.round(0, 0, 7), 0);
        due.of("21 is bad", x.round(0, 1, 7), 2);
        due.of("clean(0)", x.clean(0), 1);
        due.of("rounds", x.direction(0, 1, 4), 1);
    }

    private static void cleanWithoutSign() {
        due.in("promise 9, without a sign");
        FaceRounds x = Books.withTarget1(1000, 1000, 1000, 900);
        int[] left = {25, 25, 25, -75};
        for (int round = 0; round < 4; round++) {
            due.of("left in round " + round, x.reduced(0, round, 1, 1), left[round]);
            due.of("bad in round " + round, x.round(0, round, 7), 2);
        }
        due.of("the greatest without a sign", x.direction(0, 1, 3), 75);
        due.of("clean(0)", x.clean(0), 1);
        due.of("the one far below is struck", x.direction(0, 1, 4), 7);
        due.of("count(4)", x.count(4), 0);
        due.of("the greatest then", x.direction(0, 1, 3), 0);

        x = Books.withTarget1(1000, 1000, 1000, 972);
        due.of("left below", x.reduced(0, 3, 1, 1), -21);
        due.of("bad is the one below", x.count(4), 1);
        due.of("it is in round 3", x.round(0, 3, 7), 2);
    }

    private static void cleanWrongly() {
        due.in("promise 9, errors");
        FaceRounds x = Books.withTarget1(1000, 1100);
        due.of("clean(-1)", x.clean(-1), UNKNOWN);
        due.of("clean(1)", x.clean(1), UNKNOWN);
        x.setUp();
        due.of("clean(1) without rounds", x.clean(1), NONE);
        due.of("count(4) of set-up 0", x.count(4), 2);
        due.of("count(3)", x.count(3), 0);
    }

    private static void round() {
        due.in("promise 19");
        FaceRounds x = Books.withTarget1(1000, 1100);
        x.point(0, 0, 4, 0, 9);
        x.close(0, 0, 0, 8);
        x.strike(0, 0, 4, 0, true);
        int[] answers = {3, 2, 8, NONE, 3, 1, -1, 2};
        for (int what = 0; what < 8; what++) {
            due.of("round(0, 0, " + what + ")", x.round(0, 0, what), answers[what]);
        }
        due.of("used in round 1", x.round(0, 1, 4), 3);
        x.strike(0, 0, 0, 1, true);
        due.of("used without target 0", x.round(0, 0, 4), 0);
        due.of("error without target 0", x.round(0, 0, 6), NONE);
        due.of("bad without target 0", x.round(0, 0, 7), 0);
        due.of("bad in round 1 then", x.round(0, 1, 7), 0);
    }

    private static void sets() {
        due.in("sets of targets and of rounds, as bits");
        FaceRounds x = Books.withRounds(6);
        for (int round = 0; round < 6; round++) {
            Books.sight(x, 0, round, 0, 0);
            Books.sight(x, 0, round, 2, 100 * round);
            Books.sight(x, 0, round, 5, round == 3 ? 900 : 0);
        }
        due.of("used are 0, 2 and 5", x.round(0, 5, 4), 37);
        due.of("bad are 2 and 5", x.round(0, 3, 7), 36);
        due.of("bad are 2 and 5, the mean of which is drawn away", x.round(0, 0, 7), 36);
        due.of("all rounds", x.direction(0, 5, 4), 63);
        x.strike(0, 0, 5, 0, true);
        x.strike(0, 2, 5, 1, true);
        x.wipe(0, 4, 5);
        due.of("rounds 1, 3 and 5", x.direction(0, 5, 4), 42);
        due.of("used are 0 and 2", x.round(0, 4, 4), 5);
        due.of("bad is 2", x.round(0, 4, 7), 4);
        x.wipe(0, 5, 0);
        due.of("rounds 1 and 3", x.direction(0, 5, 4), 10);
        due.of("none is used", x.round(0, 5, 4), 0);
        due.of("none is bad", x.round(0, 5, 7), 0);
    }

    private static void roundErrors() {
        due.in("promise 19, errors");
        FaceRounds x = Books.withRounds(1);
        due.of("set-up 1", x.round(1, 0, 0), UNKNOWN);
        due.of("set-up -1", x.round(-1, 0, 0), UNKNOWN);
        due.of("round 1", x.round(0, 1, 8), UNKNOWN);
        due.of("round -1", x.round(0, -1, 0), UNKNOWN);
        due.of("what 8", x.round(0, 0, 8), BAD_VALUE);
        due.of("what -1", x.round(0, 0, -1), BAD_VALUE);
    }

    private static void meanErrors() {
        due.in("promise 19, mean of the errors");
        FaceRounds x = Books.withRounds(2);
        x.point(0, 0, 0, 0, 100);
        x.point(0, 0, 0, 1, 648110);
        due.of("of one", x.round(0, 0, 6), -5);
        x.point(0, 0, 1, 0, 5000);
        x.point(0, 0, 1, 1, 653003);
        due.of("by target 1", x.reduced(0, 0, 1, 2), -2);
        due.of("rounded down", x.round(0, 0, 6), -4);
        x.strike(0, 0, 1, 1, true);
        due.of("of used ones only", x.round(0, 0, 6), -5);
        x.point(0, 1, 0, 0, 0);
        x.point(0, 1, 0, 1, 647995);
        due.of("above 0", x.reduced(0, 1, 0, 2), 2);
    }

    private static void reducedDirections() {
        due.in("promise 20");
        FaceRounds x = Books.withRounds(1);
        x.point(0, 0, 0, 0, 100);
        x.point(0, 0, 0, 1, 648110);
        x.point(0, 0, 1, 0, 50);
        x.point(0, 0, 1, 1, 648047);
        due.of("of target 0", x.reduced(0, 0, 0, 0), 0);
        due.of("below that of target 0", x.reduced(0, 0, 1, 0), 1295943);
        due.of("error", x.reduced(0, 0, 1, 2), 1);
        due.of("error by target 0", x.reduced(0, 0, 0, 2), -5);
        due.of("left", x.reduced(0, 0, 1, 1), 0);
        for (int what = 0; what < 3; what++) {
            due.of("of target 2", x.reduced(0, 0, 2, what), NONE);
        }
    }

    private static void reducedBothFaces() {
        due.in("promise 20, faces");
        // Readings in face 0 and 1, the mean and the error that follow.
        int[][] cases = {
            {0, 0, 324000, -324000},
            {0, 648001, 0, -1},
            {0, 647999, -1, 0},
            {1295999, 648001, 1296000, -1},
            {5, 1295990, 323997, -323993},
            {648000, 0, 648000, 0},
            {700000, 52001, 700000, -1},
            {0, 1, -324000, 323999}
        };
        for (int[] one : cases) {
            FaceRounds x = Books.withRounds(1);
            Books.sight(x, 0, 0, 0, 0);
            x.point(0, 0, 3, 0, one[0]);
            x.point(0, 0, 3, 1, one[1]);
            String call = "faces " + one[0] + " and " + one[1];
            due.of(call, x.reduced(0, 0, 3, 0), Math.floorMod(one[2], 1296000));
            due.of(call + ", error", x.reduced(0, 0, 3, 2), one[3]);
        }
    }

    private static void driftIsTakenOff() {
        due.in("promise 20, drift");
        FaceRounds x = Books.withRounds(1);
        x.point(0, 0, 0, 0, 0);
        x.point(0, 0, 1, 0, 1000);
        x.point(0, 0, 2, 0, 2000);
        x.point(0, 0, 2, 1, 650000);
        x.point(0, 0, 1, 1, 649000);
        x.point(0, 0, 0, 1, 648000);
        due.of("before the closings", x.reduced(0, 0, 1, 0), 1000);
        x.close(0, 0, 0, 30);
        // Face 0: 0, 990, 1980; face 1 is open: means 0, 995, 1990.
        due.of("target 1", x.reduced(0, 0, 1, 0), 995);
        due.of("target 2", x.reduced(0, 0, 2, 0), 1990);
        due.of("error by target 1", x.reduced(0, 0, 1, 2), -5);
        x.close(0, 0, 1, 649970);
        // Face 1 (2, 1, 0): 650000, 649010, 648020: means 10, 1000, 1990.
        due.of("target 0", x.reduced(0, 0, 0, 0), 0);
        due.of("target 1", x.reduced(0, 0, 1, 0), 990);
        due.of("target 2", x.reduced(0, 0, 2, 0), 1980);
        due.of("error by target 0", x.reduced(0, 0, 0, 2), -10);
    }

    private static void reasons() {
        due.in("promise 20, reasons");
        FaceRounds x = Books.withRounds(2);
        due.of("target 0, nothing", x.reduced(0, 0, 0, 3), 1);
        due.of("target 1, nothing", x.reduced(0, 0, 1, 3), 1);
        x.point(0, 0, 1, 1, 5);
        due.of("face 1 only", x.reduced(0, 0, 1, 3), 1);
        x.strike(0, 0, 1, 1, true);
        due.of("face 1 only, struck", x.reduced(0, 0, 1, 3), 1);
        x.strike(0, 0, 1, 1, false);
        x.point(0, 0, 0, 0, 5);
        due.of("target 0, face 0 only", x.reduced(0, 0, 0, 3), 2);
        x.strike(0, 0, 0, 0, true);
        due.of("target 0, face 0 only, struck", x.reduced(0, 0, 0, 3), 2);
        x.point(0, 0, 1, 0, 5);
        due.of("target 0 has no face 1", x.reduced(0, 0, 1, 3), 4);
        x.point(0, 0, 0, 1, 5);
        due.of("target 0 is struck", x.reduced(0, 0, 1, 3), 4);
        due.of("target 0 itself", x.reduced(0, 0, 0, 3), 3);
        x.strike(0, 0, 1, 0, true);
        due.of("both are struck", x.reduced(0, 0, 1, 3), 3);
        x.strike(0, 0, 0, 0, false);
        due.of("struck in face 0", x.reduced(0, 0, 1, 3), 3);
        x.strike(0, 0, 1, 0, false);
        x.strike(0, 0, 1, 1, true);
        due.of("struck in face 1", x.reduced(0, 0, 1, 3), 3);
        x.strike(0, 0, 1, 1, false);
        due.of("used", x.reduced(0, 0, 1, 3), 0);
        due.of("target 0 is used", x.reduced(0, 0, 0, 3), 0);
        due.of("target 2", x.reduced(0, 0, 2, 3), 1);
        due.of("in round 1", x.reduced(0, 1, 1, 3), 1);
        x.wipe(0, 0, 0);
        due.of("target 0 is wiped", x.reduced(0, 0, 1, 3), 4);
    }

    private static void reducedErrors() {
        due.in("promise 20, errors");
        FaceRounds x = Books.withRounds(1);
        due.of("set-up 1", x.reduced(1, 0, 0, 0), UNKNOWN);
        due.of("round 1", x.reduced(0, 1, 0, 4), UNKNOWN);
        due.of("target 6", x.reduced(0, 0, 6, 4), UNKNOWN);
        due.of("target -1", x.reduced(0, 0, -1, 0), UNKNOWN);
        due.of("what 4", x.reduced(0, 0, 0, 4), BAD_VALUE);
        due.of("what -1", x.reduced(0, 0, 0, -1), BAD_VALUE);
    }

    private static void directionOverRounds() {
        due.in("promise 21");
        FaceRounds x = Books.withTarget1(1000, 999);
        due.of("rounded down below 0", x.direction(0, 1, 0), 999);
        due.of("left", x.reduced(0, 0, 1, 1), 1);
        due.of("left", x.reduced(0, 1, 1, 1), 0);
        due.of("greatest left", x.direction(0, 1, 3), 1);
        x = Books.withTarget1(1000, 1010, 1021);
        due.of("mean of three", x.direction(0, 1, 0), 1010);
        due.of("greatest left", x.direction(0, 1, 3), 11);
        due.of("rounds", x.direction(0, 1, 4), 7);
        due.of("target 0", x.direction(0, 0, 0), 0);
        due.of("rounds of target 0", x.direction(0, 0, 4), 7);
        x.strike(0, 0, 1, 0, true);
        due.of("the first one that is used", x.direction(0, 1, 0), 1015);
        due.of("greatest left", x.direction(0, 1, 3), 6);
        due.of("rounds", x.direction(0, 1, 4), 6);
        x.strike(0, 2, 0, 1, true);
        due.of("one round", x.direction(0, 1, 0), 1010);
        due.of("greatest left", x.direction(0, 1, 3), 0);
        due.of("rounds", x.direction(0, 1, 4), 2);
        due.of("rounds of target 0", x.direction(0, 0, 4), 3);
    }

    /** Over half a circle it matters from which round the differences are told. */
    private static void directionFromTheFirstRound() {
        due.in("promise 21, first such round");
        FaceRounds x = Books.withTarget1(700000, 0, 648000);
        x.strike(0, 0, 1, 1, true);
        due.of("round 0 is not used", x.direction(0, 1, 0), 324000);
        x = Books.withTarget1(700000, 648000, 0);
        x.wipe(0, 0, 1);
        due.of("nor is it without the target", x.direction(0, 1, 0), 972000);
        x = Books.withTarget1(700000, 648000, 0, 1);
        x.strike(0, 0, 0, 0, true);
        x.strike(0, 1, 1, 0, true);
        due.of("nor without the target 0, and round 1", x.direction(0, 1, 0), 0);
        due.of("rounds", x.direction(0, 1, 4), 12);
    }

    private static void directionAcrossZero() {
        due.in("promise 21, across zero");
        FaceRounds x = Books.withTarget1(1295990, 10);
        due.of("brought into the circle", x.direction(0, 1, 0), 0);
        due.of("left", x.reduced(0, 0, 1, 1), -10);
        due.of("left", x.reduced(0, 1, 1, 1), 10);
        x = Books.withTarget1(10, 1295980);
        due.of("from above", x.direction(0, 1, 0), 1295995);
        due.of("left", x.reduced(0, 0, 1, 1), 15);
        due.of("left", x.reduced(0, 1, 1, 1), -15);
        x = Books.withTarget1(3, 1295998);
        due.of("rounded down to 0", x.direction(0, 1, 0), 0);
        due.of("left", x.reduced(0, 1, 1, 1), -2);
        due.of("greatest left", x.direction(0, 1, 3), 3);
    }

    private static void directionOpposite() {
        due.in("promise 21, opposite");
        FaceRounds x = Books.withTarget1(0, 648000);
        due.of("half a circle is above", x.direction(0, 1, 0), 324000);
        due.of("left", x.reduced(0, 0, 1, 1), -324000);
        x = Books.withTarget1(648000, 0);
        due.of("and from the other one", x.direction(0, 1, 0), 972000);
        due.of("left", x.reduced(0, 0, 1, 1), -324000);
        due.of("left", x.reduced(0, 1, 1, 1), 324000);
        x = Books.withTarget1(0, 648001);
        due.of("a second more is below", x.direction(0, 1, 0), 972000);
    }

    private static void directionErrors() {
        due.in("promise 21, errors");
        FaceRounds x = Books.withRounds(1);
        due.of("set-up 1", x.direction(1, 0, 0), UNKNOWN);
        due.of("set-up -1", x.direction(-1, 0, 0), UNKNOWN);
        due.of("target 6", x.direction(0, 6, 5), UNKNOWN);
        due.of("target -1", x.direction(0, -1, 0), UNKNOWN);
        due.of("what 5", x.direction(0, 0, 5), BAD_VALUE);
        due.of("what -1", x.direction(0, 0, -1), BAD_VALUE);
        for (int what = 0; what < 4; what++) {
            due.of("what " + what, x.direction(0, 0, what), NONE);
        }
        due.of("what 4", x.direction(0, 0, 4), 0);
    }

    private static void corrections() {
        due.in("promise 21, corrections");
        FaceRounds x = Books.withTarget1(162000);
        due.of("without an offset", x.direction(0, 1, 1), 0);
        x.centre(0, 30, 6);
        // (6 - 3) sectors: 30 * 707 * 206265 / (100 * 1000000) = 43.7
        due.of("cut", x.direction(0, 1, 1), 43);
        x.centre(0, 30, 0);
        // (0 - 3) sectors: the sine is -707
        due.of("cut toward 0", x.direction(0, 1, 1), -43);
        x.setDistance(1, 1);
        due.of("near", x.direction(0, 1, 1), -4374);
        x.setDistance(1, 9999);
        due.of("far, cut toward 0", x.direction(0, 1, 1), 0);
        x.setDistance(1, 100);
        x.setDistance(0, 1);
        due.of("of another distance", x.direction(0, 1, 1), -43);
    }

    private static void correctionSectors() {
        due.in("promise 21, sectors");
        int[] half = {0, 5288, 10210, 14437, 17683, 19725, 20420, 19725, 17683, 14437, 10210, 5288};
        FaceRounds x = Books.withTarget1(27000);
        x.setDistance(0, 1);
        x.setDistance(1, 1);
        for (int sector = 0; sector < 24; sector++) {
            int due0 = sector < 12 ? half[sector] : -half[sector - 12];
            x.centre(0, 99, sector);
            due.of("target 0, sector " + sector, x.direction(0, 0, 1), due0);
            due.of("target 1 at the edge, sector " + sector, x.direction(0, 1, 1), due0);
            due.of("centred target 0", x.direction(0, 0, 2), 0);
            due.of("centred target 1", x.direction(0, 1, 2), 27000);
        }
        x = Books.withTarget1(27001);
        x.setDistance(1, 1);
        x.centre(0, 99, 0);
        due.of("over the edge", x.direction(0, 1, 1), -5288);
        x.centre(0, 99, 1);
        due.of("over the edge", x.direction(0, 1, 1), 0);
        x = Books.withTarget1(26999);
        x.setDistance(1, 1);
        x.centre(0, 99, 0);
        due.of("before the edge", x.direction(0, 1, 1), 0);
    }

    private static void centredDirections() {
        due.in("promise 21, centred");
        FaceRounds x = Books.withTarget1(162000);
        x.centre(0, 30, 6);
        // Target 0: the sine is 1000, 61.8; target 1: 43.
        due.of("correction of target 0", x.direction(0, 0, 1), 61);
        due.of("centred", x.direction(0, 1, 2), 161982);
        due.of("the direction itself", x.direction(0, 1, 0), 162000);
        x.setUp();
        x.begin(1);
        Books.sight(x, 1, 0, 0, 0);
        Books.sight(x, 1, 0, 1, 5);
        due.of("the other set-up", x.direction(1, 1, 2), 5);
        x.centre(1, 30, 6);
        x.setDistance(1, 200);
        due.of("below 0", x.direction(1, 1, 2), 5 + 30 - 61 + 1296000);
        x.setDistance(1, 100);
        Books.sight(x, 1, 0, 2, 1295999);
        x.setDistance(2, 1);
        due.of("above a circle", x.direction(1, 2, 2), 1295999 + 6187 - 61 - 1296000);
    }

    private static void angles() {
        due.in("promise 22");
        FaceRounds x = Books.withTarget1(162000);
        Books.sight(x, 0, 0, 2, 1000000);
        due.of("angle(0, 1, 2)", x.angle(0, 1, 2, false), 838000);
        due.of("angle(0, 2, 1)", x.angle(0, 2, 1, false), 458000);
        due.of("angle(0, 0, 2)", x.angle(0, 0, 2, false), 1000000);
        due.of("angle(0, 2, 0)", x.angle(0, 2, 0, false), 296000);
        due.of("angle(0, 2, 2)", x.angle(0, 2, 2, false), 0);
        due.of("centred without an offset", x.angle(0, 1, 2, true), 838000);
        x.centre(0, 30, 6);
        // Corrections 61, 43; target 2: (324000 - 1000000 + 27000) is in the sector 11, 259: 16.
        due.of("correction of target 2", x.direction(0, 2, 1), 16);
        due.of("centred", x.angle(0, 1, 2, true), 838000 + 16 - 43);
        due.of("centred to target 0", x.angle(0, 2, 0, true), 296000 - 16 + 61);
        due.of("not centred", x.angle(0, 1, 2, false), 838000);
        due.of("target 3", x.angle(0, 3, 0, true), NONE);
        due.of("target 3", x.angle(0, 0, 3, false), NONE);
        due.of("target 3", x.angle(0, 3, 3, false), NONE);
        due.of("set-up 1", x.angle(1, 0, 0, false), UNKNOWN);
        due.of("set-up -1", x.angle(-1, 0, 0, false), UNKNOWN);
        due.of("target 6", x.angle(0, 6, 0, false), UNKNOWN);
        due.of("target 6", x.angle(0, 3, 6, true), UNKNOWN);
        due.of("target -1", x.angle(0, -1, 3, true), UNKNOWN);
        due.of("target -1", x.angle(0, 0, -1, true), UNKNOWN);
    }

    private static void byAngles() {
        due.in("promise 23");
        FaceRounds x = Books.withTarget1(900000);
        Books.sight(x, 0, 0, 2, 5000);
        Books.sight(x, 0, 0, 3, 1295999);
        Books.sight(x, 0, 0, 4, 900000);
        Books.sight(x, 0, 0, 5, 0);
        int[] sums = {0, 900000, 5000, 1295999, 900000, 0};
        for (int target = 0; target < 6; target++) {
            due.of("target " + target, x.byAngles(0, target), sums[target]);
        }
        x.centre(0, 99, 6);
        due.of("it is not centred", x.byAngles(0, 3), 1295999);
        x.strike(0, 0, 1, 0, true);
        due.of("not used", x.byAngles(0, 1), NONE);
        due.of("past it", x.byAngles(0, 4), 900000);
        x.strike(0, 0, 0, 0, true);
        due.of("target 0 is struck", x.byAngles(0, 0), NONE);
        due.of("target 0 is struck", x.byAngles(0, 4), NONE);
        due.of("set-up 1", x.byAngles(1, 0), UNKNOWN);
        due.of("set-up -1", x.byAngles(-1, 0), UNKNOWN);
        due.of("target 6", x.byAngles(0, 6), UNKNOWN);
        due.of("target -1", x.byAngles(0, -1), UNKNOWN);
    }

    private static void counts() {
        due.in("promise 24");
        FaceRounds x = Books.withTarget1(1000, 1100);
        x.setUp();
        x.begin(1);
        x.begin(1);
        x.begin(1);
        for (int round = 0; round < 2; round++) {
            Books.sight(x, 1, round, 0, 0);
            Books.sight(x, 1, round, 2, round * 50);
            Books.sight(x, 1, round, 3, round * 60);
        }
        x.point(1, 2, 4, 1, 0);
        x.close(1, 2, 1, 0);
        x.close(0, 0, 0, 0);
        x.close(0, 0, 1, 648000);
        x.strike(1, 2, 4, 1, true);
        x.type('x');
        x.setLimit(24);
        int[] answers = {2, 5, 21, 1, 6, 24, 3, 4, 1};
        for (int what = 0; what < 9; what++) {
            due.of("count(" + what + ")", x.count(what), answers[what]);
        }
        due.of("count(-1)", x.count(-1), BAD_VALUE);
        due.of("count(9)", x.count(9), BAD_VALUE);
        due.of("count(max)", x.count(Integer.MAX_VALUE), BAD_VALUE);
        due.of("clean(1)", x.clean(1), 2);
        due.of("bad ones of set-up 0 stay", x.count(4), 2);
    }
}
