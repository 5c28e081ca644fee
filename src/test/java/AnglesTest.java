/**
 * "Brought near 0", "brought to 0 to 1295999", "rounded down (below 0, too)" and "cut to the
 * whole number toward 0", wherever the document says them.
 */
public final class AnglesTest {
    private static final Due due = new Due();
    /** The corrections of a target in the distance 1 by the offset 99, by half the sectors of the sine. */
    private static final int[] NEAR = {0, 5288, 10210, 14437, 17683, 19725, 20420, 19725, 17683, 14437, 10210, 5288};
    /** The same in the distance 9999. */
    private static final int[] FAR = {0, 0, 1, 1, 1, 1, 2, 1, 1, 1, 1, 0};

    public static void main(String[] args) {
        driftNearZero();
        bothFacesNearZero();
        correctedFacesNearZero();
        differencesNearZero();
        leftNearZero();
        reducedBroughtIntoTheCircle();
        directionBroughtIntoTheCircle();
        angleBroughtIntoTheCircle();
        centredBroughtIntoTheCircle();
        centredAngleBroughtIntoTheCircle();
        correctionForDriftRoundedDown();
        greatestCorrectionsForDrift();
        meanOfFacesRoundedDown();
        errorRoundedDown();
        meanOfErrorsRoundedDown();
        meanOfSixErrors();
        meanOfErrorsRoundByRound();
        meanOfDifferencesRoundedDown();
        firstRoundCountsWithItsDifferenceZero();
        sectorRoundedDown();
        sectorBroughtIntoTheCircle();
        correctionCutTowardZero();
        greatestCorrections();
        due.end();
    }

    private static void driftNearZero() {
        due.in("drift near 0");
        int[][] cases = {
            {0, 647999, 647999}, {0, 648000, 648000}, {0, 648001, -647999}, {0, 1295999, -1},
            {647999, 0, -647999}, {648000, 0, 648000}, {648001, 0, 647999}, {1295999, 0, 1},
            {1295999, 648000, -647999}, {1295999, 647999, 648000}, {1295999, 647998, 647999}, {5, 5, 0}
        };
        for (int[] one : cases) {
            for (int face = 0; face < 2; face++) {
                FaceRounds x = Books.withRounds(1);
                x.point(0, 0, 3, face, one[0]);
                String call = "from " + one[0] + " to " + one[1];
                due.of(call, x.close(0, 0, face, one[1]), one[2]);
                due.of(call + ", told", x.round(0, 0, 2 + face), one[2]);
            }
        }
    }

    /** Target 0 without any error, target 3 by these readings: the mean and the error that are due. */
    private static void faces(int reading0, int reading1, int mean, int error) {
        FaceRounds x = Books.withRounds(1);
        Books.sight(x, 0, 0, 0, 0);
        x.point(0, 0, 3, 0, reading0);
        x.point(0, 0, 3, 1, reading1);
        String call = "readings " + reading0 + " and " + reading1;
        due.of(call + ", reduced", x.reduced(0, 0, 3, 0), mean);
        due.of(call + ", error", x.reduced(0, 0, 3, 2), error);
    }

    private static void bothFacesNearZero() {
        due.in("both faces, d near 0");
        faces(0, 0, 324000, -324000);
        faces(0, 1, 1296000 - 324000, 323999);
        faces(0, 1295999, 323999, -324000);
        faces(648000, 648000, 972000, -324000);
        faces(648000, 647999, 971999, -324000);
        faces(648000, 648001, 324000, 323999);
        faces(1295999, 1295999, 323999, -324000);
        faces(0, 648000, 0, 0);
        faces(1295999, 647999, 1295999, 0);
        faces(1295999, 648000, 1295999, -1);
        faces(10, 647990, 0, 10);
    }

    /** Face 0: 0, 1295999 + 324000 by the drift; face 1: 100, 10 by none. */
    private static void correctedFacesNearZero() {
        due.in("corrected faces, d near 0");
        FaceRounds x = Books.withRounds(1);
        x.point(0, 0, 0, 0, 0);
        x.point(0, 0, 1, 0, 1295999);
        x.point(0, 0, 0, 1, 648000);
        x.point(0, 0, 1, 1, 10);
        x.close(0, 0, 0, 648001);
        due.of("drift", x.round(0, 0, 2), -647999);
        due.of("corrected", x.pointing(0, 0, 0, 1, 3), 1619999);
        // d is 10 - 648000 - 1619999, near 0: 324011; the mean 1619999 + 162005.
        due.of("reduced", x.reduced(0, 0, 1, 0), 1782004 - 1296000);
        due.of("error", x.reduced(0, 0, 1, 2), -162006);
    }

    private static void directionDue(int direction, int... reduced) {
        FaceRounds x = Books.withTarget1(reduced);
        StringBuilder call = new StringBuilder("direction of");
        for (int one : reduced) {
            call.append(' ').append(one);
        }
        due.of(call.toString(), x.direction(0, 1, 0), direction);
    }

    private static void differencesNearZero() {
        due.in("differences near 0");
        directionDue(324000, 0, 648000);
        directionDue(1296000 - 324000, 0, 648001);
        directionDue(323999, 0, 647999);
        directionDue(972000, 648000, 0);
        directionDue(972000, 648001, 0);
        directionDue(323999, 647999, 0);
        directionDue(1295999, 0, 1295999);
        directionDue(1295999, 1295999, 0);
        directionDue(0, 1295999, 1);
        directionDue(432000, 0, 648000, 648000);
        directionDue(162000, 0, 648000, 648001, 648000);
    }

    private static void leftNearZero() {
        due.in("what is left, near 0");
        // The differences 0, -647999, 648000 and 3 have the mean 1.
        FaceRounds x = Books.withTarget1(0, 648001, 648000, 3);
        int[] left = {-1, 648000, 647999, 2};
        due.of("direction", x.direction(0, 1, 0), 1);
        for (int round = 0; round < 4; round++) {
            due.of("left in round " + round, x.reduced(0, round, 1, 1), left[round]);
        }
        due.of("the greatest", x.direction(0, 1, 3), 648000);
        // With the mean 2 the second one is over the half circle.
        x = Books.withTarget1(0, 648001, 648000, 7);
        due.of("direction", x.direction(0, 1, 0), 2);
        due.of("left over the half circle", x.reduced(0, 1, 1, 1), 647999);
        due.of("the greatest", x.direction(0, 1, 3), 647999);
        x = Books.withTarget1(1295990, 10);
        due.of("left below the circle's turn", x.reduced(0, 0, 1, 1), -10);
        due.of("left above the circle's turn", x.reduced(0, 1, 1, 1), 10);
    }

    private static void reducedDue(int reading0, int reading, int reduced) {
        FaceRounds x = Books.withRounds(1);
        Books.sight(x, 0, 0, 0, reading0);
        Books.sight(x, 0, 0, 5, reading);
        due.of("reduced, " + reading + " from " + reading0, x.reduced(0, 0, 5, 0), reduced);
        due.of("reduced of target 0", x.reduced(0, 0, 0, 0), 0);
    }

    private static void reducedBroughtIntoTheCircle() {
        due.in("reduced directions 0 to 1295999");
        reducedDue(0, 0, 0);
        reducedDue(0, 1295999, 1295999);
        reducedDue(1, 0, 1295999);
        reducedDue(1295999, 0, 1);
        reducedDue(1295999, 1295999, 0);
        reducedDue(1295999, 1295998, 1295999);
        // The means reach from -324000 to 1619999: over a circle, and a circle below.
        FaceRounds x = Books.withRounds(2);
        x.point(0, 0, 0, 0, 0);
        x.point(0, 0, 0, 1, 1);
        x.point(0, 0, 1, 0, 1295999);
        x.point(0, 0, 1, 1, 1295999);
        due.of("above a circle", x.reduced(0, 0, 1, 0), 1619999 + 324000 - 1296000);
        x.point(0, 1, 0, 0, 1295999);
        x.point(0, 1, 0, 1, 1295999);
        x.point(0, 1, 1, 0, 0);
        x.point(0, 1, 1, 1, 1);
        due.of("a circle below", x.reduced(0, 1, 1, 0), -324000 - 1619999 + 2 * 1296000);
    }

    private static void directionBroughtIntoTheCircle() {
        due.in("directions 0 to 1295999");
        directionDue(0, 1295998, 2);
        directionDue(1295999, 1295998, 0);
        directionDue(1295999, 1, 1295998);
        directionDue(0, 2, 1295998);
        directionDue(1295999, 0, 0, 1295999);
        directionDue(1295999, 1295999, 1295999);
    }

    private static void angleBroughtIntoTheCircle() {
        due.in("angles 0 to 1295999");
        FaceRounds x = Books.withTarget1(1);
        Books.sight(x, 0, 0, 2, 1295999);
        Books.sight(x, 0, 0, 3, 1);
        due.of("from 0 to 1295999", x.angle(0, 0, 2, false), 1295999);
        due.of("from 1295999 to 0", x.angle(0, 2, 0, false), 1);
        due.of("from 1 to 1295999", x.angle(0, 1, 2, false), 1295998);
        due.of("from 1295999 to 1", x.angle(0, 2, 1, false), 2);
        due.of("from 1 to 0", x.angle(0, 1, 0, false), 1295999);
        due.of("between equal ones", x.angle(0, 3, 1, false), 0);
        due.of("to itself", x.angle(0, 2, 2, false), 0);
    }

    /** With the offset 30 and the sector 6 the correction of target 0 is 61. */
    private static void centredBroughtIntoTheCircle() {
        due.in("centred directions 0 to 1295999");
        int[][] cases = {
            // direction, distance, correction, centred direction
            {0, 100, 61, 0}, {1, 102, 60, 0}, {0, 102, 60, 1295999}, {1295999, 99, 62, 0},
            {1295999, 100, 61, 1295999}, {1295998, 99, 62, 1295999}, {60, 9999, 0, 1295999}, {61, 9999, 0, 0},
            {1295999, 1, 6187, 6125}
        };
        for (int[] one : cases) {
            FaceRounds x = Books.withTarget1(one[0]);
            x.centre(0, 30, 6);
            x.setDistance(1, one[1]);
            String call = "direction " + one[0] + ", distance " + one[1];
            due.of(call + ", correction of target 0", x.direction(0, 0, 1), 61);
            due.of(call + ", correction", x.direction(0, 1, 1), one[2]);
            due.of(call + ", centred", x.direction(0, 1, 2), one[3]);
            due.of(call + ", target 0 centred", x.direction(0, 0, 2), 0);
        }
    }

    private static void centredAngleBroughtIntoTheCircle() {
        due.in("centred angles 0 to 1295999");
        FaceRounds x = Books.withTarget1(10);
        Books.sight(x, 0, 0, 2, 10);
        x.centre(0, 30, 6);
        x.setDistance(1, 102);
        // The corrections are 60 and 61: 10 and 10 become 9 and 10.
        due.of("to the greater one", x.angle(0, 1, 2, true), 1);
        due.of("to the smaller one", x.angle(0, 2, 1, true), 1295999);
        due.of("to itself", x.angle(0, 1, 1, true), 0);
        due.of("not centred", x.angle(0, 2, 1, false), 0);
        x.setDistance(1, 9999);
        // Target 1 is at 10 - 61 then, near the end of the circle.
        due.of("centred", x.direction(0, 1, 2), 1295949);
        due.of("from target 0", x.angle(0, 0, 1, true), 1295949);
        due.of("to target 0", x.angle(0, 1, 0, true), 51);
    }

    private static void correctionForDriftRoundedDown() {
        due.in("drift * k / n rounded down");
        int[] drifts = {1, -1, 2, -2, 3, -3, 4, -4, 0};
        // By drift * 1 / 3 and drift * 2 / 3, rounded down.
        int[][] offs = {{0, 0}, {-1, -1}, {0, 1}, {-1, -2}, {1, 2}, {-1, -2}, {1, 2}, {-2, -3}, {0, 0}};
        for (int i = 0; i < drifts.length; i++) {
            for (int face = 0; face < 2; face++) {
                FaceRounds x = Books.withRounds(1);
                for (int target = 0; target < 3; target++) {
                    x.point(0, 0, target, face, 1000);
                }
                due.of("close", x.close(0, 0, face, 1000 + drifts[i]), drifts[i]);
                String call = "drift " + drifts[i] + ", place ";
                due.of(call + 0, x.pointing(0, 0, face, 0, 3), 1000);
                due.of(call + 1, x.pointing(0, 0, face, 1, 3), 1000 - offs[i][0]);
                due.of(call + 2, x.pointing(0, 0, face, 2, 3), 1000 - offs[i][1]);
            }
        }
    }

    private static void greatestCorrectionsForDrift() {
        due.in("the greatest drifts");
        FaceRounds x = Books.withRounds(1);
        for (int target = 0; target < 6; target++) {
            x.point(0, 0, target, 0, target == 5 ? 0 : 10);
            x.point(0, 0, target, 1, target == 5 ? 1295999 : 10);
        }
        due.of("close", x.close(0, 0, 0, 648010), 648000);
        due.of("close", x.close(0, 0, 1, 648011), -647999);
        due.of("far below 0", x.pointing(0, 0, 0, 5, 3), -540000);
        due.of("far above a circle", x.pointing(0, 0, 1, 5, 3), 1295999 + 540000);
        due.of("in the middle", x.pointing(0, 0, 0, 3, 3), 10 - 324000);
        due.of("in the middle, -323999.5", x.pointing(0, 0, 1, 3, 3), 10 + 324000);
    }

    private static void meanOfFacesRoundedDown() {
        due.in("d / 2 rounded down");
        int[] apart = {1, -1, 2, -2, 3, -3};
        int[] half = {0, -1, 1, -1, 1, -2};
        for (int i = 0; i < apart.length; i++) {
            FaceRounds x = Books.withRounds(1);
            Books.sight(x, 0, 0, 0, 0);
            x.point(0, 0, 1, 0, 1000);
            x.point(0, 0, 1, 1, 649000 + apart[i]);
            due.of("d of " + apart[i], x.reduced(0, 0, 1, 0), 1000 + half[i]);
            // With that d at target 0 all others are as much less.
            x = Books.withRounds(1);
            Books.sight(x, 0, 0, 1, 1000);
            x.point(0, 0, 0, 0, 500);
            x.point(0, 0, 0, 1, 648500 + apart[i]);
            due.of("d of " + apart[i] + " at target 0", x.reduced(0, 0, 1, 0), 500 - half[i]);
        }
    }

    private static void errorRoundedDown() {
        due.in("(- d) / 2 rounded down");
        int[] apart = {1, -1, 2, -2, 3, -3, 0};
        int[] errors = {-1, 0, -1, 1, -2, 1, 0};
        for (int i = 0; i < apart.length; i++) {
            FaceRounds x = Books.withRounds(1);
            x.point(0, 0, 0, 0, 1000);
            x.point(0, 0, 0, 1, 649000 + apart[i]);
            due.of("d of " + apart[i], x.reduced(0, 0, 0, 2), errors[i]);
            due.of("d of " + apart[i] + ", mean of one", x.round(0, 0, 6), errors[i]);
        }
    }

    /** One round with the errors of the line of sight, target by target. */
    private static FaceRounds withErrors(int... errors) {
        FaceRounds x = Books.withRounds(1);
        for (int target = 0; target < errors.length; target++) {
            x.point(0, 0, target, 0, 1000);
            x.point(0, 0, target, 1, 649000 - 2 * errors[target]);
        }
        return x;
    }

    private static void meanOfErrorsRoundedDown() {
        due.in("mean of the errors rounded down");
        due.of("-1 and 0", withErrors(-1, 0).round(0, 0, 6), -1);
        due.of("1 and 0", withErrors(1, 0).round(0, 0, 6), 0);
        due.of("-1, 0 and 0", withErrors(-1, 0, 0).round(0, 0, 6), -1);
        due.of("1, 1 and 0", withErrors(1, 1, 0).round(0, 0, 6), 0);
        due.of("-3, -3 and -2", withErrors(-3, -3, -2).round(0, 0, 6), -3);
        due.of("5, -5", withErrors(5, -5).round(0, 0, 6), 0);
    }

    private static void meanOfSixErrors() {
        due.in("mean of six errors");
        FaceRounds x = withErrors(1, 20, 300, 4000, 50000, 100000);
        due.of("all six", x.round(0, 0, 6), 25720);
        x.strike(0, 0, 5, 0, true);
        due.of("without target 5", x.round(0, 0, 6), 10864);
        x.strike(0, 0, 2, 1, true);
        due.of("without target 2, too", x.round(0, 0, 6), 13505);
        x.wipe(0, 0, 4);
        due.of("without target 4, too", x.round(0, 0, 6), 1340);
        x.strike(0, 0, 0, 1, true);
        due.of("without target 0", x.round(0, 0, 6), FaceRounds.NONE);
    }

    private static void meanOfErrorsRoundByRound() {
        due.in("mean of the errors, round by round");
        FaceRounds x = Books.withRounds(6);
        for (int round = 0; round < 6; round++) {
            for (int target = 0; target < 6; target++) {
                x.point(0, round, target, 0, 1000);
                x.point(0, round, target, 1, 649000 + 200 * round + 2 * target * target);
            }
        }
        // The errors are - 100 * round, less 0, 1, 4, 9, 16 and 25, whose mean is 9 and a sixth.
        for (int round = 0; round < 6; round++) {
            due.of("round " + round, x.round(0, round, 6), -100 * round - 10);
            due.of("round " + round + ", target 4", x.reduced(0, round, 4, 2), -100 * round - 16);
        }
    }

    private static void meanOfDifferencesRoundedDown() {
        due.in("mean of the differences rounded down");
        directionDue(1000, 1000, 1001);
        directionDue(999, 1000, 999);
        directionDue(1000, 1000, 1001, 1001);
        directionDue(999, 1000, 1000, 999);
        directionDue(1000, 1000, 1001, 1001, 1001, 1001, 1001);
        directionDue(999, 1000, 1000, 1000, 1000, 1000, 999);
        directionDue(1001, 1000, 1001, 1001, 1001, 1001, 1002);
        directionDue(998, 1000, 999, 999, 999, 999, 997);
    }

    private static void firstRoundCountsWithItsDifferenceZero() {
        due.in("the first round counts, too");
        directionDue(1000, 1000);
        directionDue(1020, 1000, 1040);
        directionDue(1040, 1000, 1060, 1060);
        FaceRounds x = Books.withTarget1(1000, 1040, 1100, 1040);
        x.strike(0, 0, 1, 0, true);
        due.of("the second round is the first one then", x.direction(0, 1, 0), 1060);
        x.strike(0, 1, 0, 1, true);
        due.of("and then the third one", x.direction(0, 1, 0), 1070);
    }

    private static int bySector(int[] half, int sector) {
        return sector < 12 ? half[sector] : -half[sector - 12];
    }

    /** The sine's sector at target 1, told by the correction that follows from it. */
    private static void sectorDue(String call, int direction, int sector, int due1) {
        FaceRounds x = Books.withTarget1(direction);
        x.setDistance(1, 1);
        x.centre(0, 99, sector);
        due.of(call, x.direction(0, 1, 1), bySector(NEAR, due1));
    }

    /** From the sector 23 each edge is met without a turn of the circle, and the second before it. */
    private static void sectorRoundedDown() {
        due.in("sectors of the sine");
        for (int at = 0; at < 24; at++) {
            int atEdge = 1269000 - at * 54000;
            sectorDue("edge " + at, atEdge, 23, at);
            sectorDue("a second before the edge " + at, atEdge + 1, 23, (at + 23) % 24);
        }
    }

    /** From the sector 0 all directions above 27000 are below 0, and brought into the circle. */
    private static void sectorBroughtIntoTheCircle() {
        due.in("sectors of the sine, a circle below");
        for (int at = 0; at < 24; at++) {
            int atEdge = (27000 - at * 54000 + 1296000) % 1296000;
            sectorDue("edge " + at, atEdge, 0, at);
            sectorDue("a second before the edge " + at, atEdge + 1, 0, (at + 23) % 24);
        }
        sectorDue("the last second of the circle", 1295999, 0, 0);
    }

    private static void correctionCutTowardZero() {
        due.in("correction cut toward 0");
        int[][] cases = {
            // sector from target 0, distance, correction: 206265 * sine / (distance * 1000000)
            {6, 1, 206}, {18, 1, -206}, {6, 206, 1}, {18, 206, -1}, {6, 207, 0}, {18, 207, 0},
            {1, 53, 1}, {13, 53, -1}, {1, 54, 0}, {13, 54, 0}, {6, 9999, 0}, {18, 9999, 0}, {0, 1, 0}, {12, 1, 0}
        };
        for (int[] one : cases) {
            FaceRounds x = Books.withTarget1(0);
            x.setDistance(0, one[1]);
            x.centre(0, 1, one[0]);
            due.of("offset 1, sector " + one[0] + ", distance " + one[1], x.direction(0, 0, 1), one[2]);
        }
    }

    private static void greatestCorrections() {
        due.in("the greatest corrections");
        FaceRounds x = Books.withTarget1(0);
        x.setDistance(0, 1);
        x.setDistance(1, 9999);
        for (int sector = 0; sector < 24; sector++) {
            x.centre(0, 99, sector);
            due.of("distance 1, sector " + sector, x.direction(0, 0, 1), bySector(NEAR, sector));
            due.of("distance 9999, sector " + sector, x.direction(0, 1, 1), bySector(FAR, sector));
        }
        x.centre(0, 0, 6);
        due.of("offset 0", x.direction(0, 0, 1), 0);
    }
}
