/** Promises 4, 6, 7, 8 and 18: point, close, strike, wipe, pointing. */
public final class PointingsTest {
    private static final Due due = new Due();

    public static void main(String[] args) {
        point();
        pointWrongly();
        close();
        closeWrongly();
        strike();
        strikeWrongly();
        wipe();
        wipeWrongly();
        pointing();
        corrected();
        correctedAfterWiping();
        pointingWrongly();
        due.end();
    }

    private static void point() {
        due.in("promise 4");
        FaceRounds x = Books.withRounds(2);
        int[] targets = {3, 0, 5, 1, 4, 2};
        for (int i = 0; i < 6; i++) {
            due.of("point in face 0", x.point(0, 1, targets[i], 0, i * 1000), i + 1);
            due.of("round(0, 1, 0)", x.round(0, 1, 0), i + 1);
            due.of("round(0, 1, 1)", x.round(0, 1, 1), 0);
        }
        due.of("point(0, 1, 2, 1, 1295999)", x.point(0, 1, 2, 1, 1295999), 1);
        due.of("point(0, 1, 3, 1, 0)", x.point(0, 1, 3, 1, 0), 2);
        due.of("round(0, 0, 0)", x.round(0, 0, 0), 0);
        for (int i = 0; i < 6; i++) {
            due.of("target at " + i, x.pointing(0, 1, 0, i, 0), targets[i]);
            due.of("reading at " + i, x.pointing(0, 1, 0, i, 1), i * 1000);
            due.of("struck at " + i, x.pointing(0, 1, 0, i, 2), 0);
        }
        due.of("pointing(0, 1, 1, 0, 1)", x.pointing(0, 1, 1, 0, 1), 1295999);
        due.of("count(2)", x.count(2), 8);
        due.of("undo()", x.undo(), 3);
        due.of("round(0, 1, 1)", x.round(0, 1, 1), 1);
    }

    private static void pointWrongly() {
        due.in("promise 4, errors");
        FaceRounds x = Books.withRounds(1);
        x.point(0, 0, 1, 0, 5);
        int before = x.count(7);
        due.of("no such set-up", x.point(1, 0, 1, 0, 5), FaceRounds.UNKNOWN);
        due.of("negative set-up", x.point(-1, 0, 1, 0, 5), FaceRounds.UNKNOWN);
        due.of("no such round", x.point(0, 1, 1, 0, 5), FaceRounds.UNKNOWN);
        due.of("negative round", x.point(0, -1, 1, 0, 5), FaceRounds.UNKNOWN);
        due.of("target 6", x.point(0, 0, 6, 0, 5), FaceRounds.UNKNOWN);
        due.of("target -1", x.point(0, 0, -1, 0, 5), FaceRounds.UNKNOWN);
        due.of("target before face", x.point(0, 0, 6, 2, -1), FaceRounds.UNKNOWN);
        due.of("face 2", x.point(0, 0, 2, 2, 5), FaceRounds.BAD_VALUE);
        due.of("face -1", x.point(0, 0, 2, -1, 5), FaceRounds.BAD_VALUE);
        due.of("reading 1296000", x.point(0, 0, 2, 0, 1296000), FaceRounds.BAD_VALUE);
        due.of("reading -1", x.point(0, 0, 2, 0, -1), FaceRounds.BAD_VALUE);
        due.of("bad value before not possible", x.point(0, 0, 1, 0, -1), FaceRounds.BAD_VALUE);
        due.of("twice in a face", x.point(0, 0, 1, 0, 6), FaceRounds.NOT_POSSIBLE);
        due.of("in the other face", x.point(0, 0, 1, 1, 6), 1);
        x.close(0, 0, 0, 7);
        due.of("in a closed face", x.point(0, 0, 2, 0, 6), FaceRounds.NOT_POSSIBLE);
        due.of("in the open face", x.point(0, 0, 2, 1, 6), 2);
        x.strike(0, 0, 1, 1, true);
        due.of("where one is struck", x.point(0, 0, 1, 1, 6), FaceRounds.NOT_POSSIBLE);
        due.of("reading", x.pointing(0, 0, 0, 0, 1), 5);
        due.of("count(2)", x.count(2), 3);
        due.of("count(7) before", before, 3);
        due.of("count(7)", x.count(7), 4);
    }

    private static void close() {
        due.in("promise 6");
        FaceRounds x = Books.withRounds(6);
        int[] first = {100, 1295990, 10, 0, 648000, 1};
        int[] closing = {110, 20, 1295980, 648000, 0, 648002};
        int[] drift = {10, 30, -30, 648000, 648000, -647999};
        for (int round = 0; round < 6; round++) {
            int face = round % 2;
            x.point(0, round, 4, face, first[round]);
            x.point(0, round, 0, face, 77777);
            due.of("close in round " + round, x.close(0, round, face, closing[round]), drift[round]);
            due.of("its drift", x.round(0, round, 2 + face), drift[round]);
            due.of("drift of the other face", x.round(0, round, 3 - face), FaceRounds.NONE);
            due.of("count(6)", x.count(6), round + 1);
        }
        due.of("undo()", x.undo(), 3);
        due.of("count(6)", x.count(6), 5);
        due.of("round(0, 5, 3)", x.round(0, 5, 3), FaceRounds.NONE);

        x = Books.withRounds(1);
        x.point(0, 0, 3, 1, 700);
        x.point(0, 0, 2, 1, 500);
        x.point(0, 0, 4, 1, 600);
        x.strike(0, 0, 3, 1, true);
        x.strike(0, 0, 4, 1, true);
        due.of("close behind a struck first one of three", x.close(0, 0, 1, 706), 6);
        due.of("corrected, struck ones are counted", x.pointing(0, 0, 1, 2, 3), 596);

        x = Books.withRounds(1);
        x.point(0, 0, 2, 0, 500);
        x.strike(0, 0, 2, 0, true);
        due.of("close behind a struck first one", x.close(0, 0, 0, 503), 3);
        x.strike(0, 0, 2, 0, false);
        due.of("its drift", x.round(0, 0, 2), 3);
        x.point(0, 0, 1, 1, 40);
        x.point(0, 0, 2, 1, 60);
        x.wipe(0, 0, 1);
        due.of("close behind a wiped first one", x.close(0, 0, 1, 50), -10);
    }

    private static void closeWrongly() {
        due.in("promise 6, errors");
        FaceRounds x = Books.withRounds(1);
        x.point(0, 0, 0, 0, 5);
        due.of("no such set-up", x.close(1, 0, 0, 5), FaceRounds.UNKNOWN);
        due.of("no such round", x.close(0, 1, 0, 5), FaceRounds.UNKNOWN);
        due.of("negative round", x.close(0, -1, 2, -5), FaceRounds.UNKNOWN);
        due.of("face 2", x.close(0, 0, 2, 5), FaceRounds.BAD_VALUE);
        due.of("face -1", x.close(0, 0, -1, 5), FaceRounds.BAD_VALUE);
        due.of("reading -1", x.close(0, 0, 0, -1), FaceRounds.BAD_VALUE);
        due.of("reading 1296000", x.close(0, 0, 0, 1296000), FaceRounds.BAD_VALUE);
        due.of("without a pointing", x.close(0, 0, 1, 5), FaceRounds.NOT_POSSIBLE);
        due.of("bad value before not possible", x.close(0, 0, 1, -1), FaceRounds.BAD_VALUE);
        due.of("close", x.close(0, 0, 0, 1295999), -6);
        due.of("closed", x.close(0, 0, 0, 5), FaceRounds.NOT_POSSIBLE);
        due.of("drift", x.round(0, 0, 2), -6);
        due.of("count(7)", x.count(7), 4);

        x = Books.withRounds(1);
        x.point(0, 0, 0, 0, 5);
        x.wipe(0, 0, 0);
        due.of("all are wiped", x.close(0, 0, 0, 5), FaceRounds.NOT_POSSIBLE);
    }

    private static void strike() {
        due.in("promise 7");
        FaceRounds x = Books.withRounds(2);
        Books.sight(x, 0, 0, 0, 0);
        Books.sight(x, 0, 0, 3, 1000);
        Books.sight(x, 0, 1, 3, 1000);
        due.of("strike(0, 0, 3, 1)", x.strike(0, 0, 3, 1, true), 1);
        due.of("count(7)", x.count(7), 4);
        due.of("struck", x.pointing(0, 0, 1, 1, 2), 1);
        due.of("not struck in face 0", x.pointing(0, 0, 0, 1, 2), 0);
        due.of("not struck in round 1", x.pointing(0, 1, 1, 0, 2), 0);
        due.of("strike(0, 0, 3, 0)", x.strike(0, 0, 3, 0, true), 2);
        due.of("strike(0, 0, 0, 0)", x.strike(0, 0, 0, 0, true), 3);
        due.of("strike(0, 1, 3, 0)", x.strike(0, 1, 3, 0, true), 1);
        due.of("round(0, 0, 5)", x.round(0, 0, 5), 3);
        due.of("it stays in its place", x.pointing(0, 0, 0, 0, 0), 0);
        due.of("round(0, 0, 0)", x.round(0, 0, 0), 2);
        due.of("count(3)", x.count(3), 4);
        due.of("back", x.strike(0, 0, 3, 0, false), 2);
        due.of("not struck then", x.pointing(0, 0, 0, 1, 2), 0);
        due.of("undo()", x.undo(), 3);
        due.of("struck again", x.pointing(0, 0, 0, 1, 2), 1);
        x.close(0, 0, 0, 9);
        due.of("in a closed face", x.strike(0, 0, 3, 0, false), 2);
    }

    private static void strikeWrongly() {
        due.in("promise 7, errors");
        FaceRounds x = Books.withRounds(1);
        x.point(0, 0, 2, 0, 5);
        due.of("no such set-up", x.strike(1, 0, 2, 0, true), FaceRounds.UNKNOWN);
        due.of("no such round", x.strike(0, 1, 2, 5, true), FaceRounds.UNKNOWN);
        due.of("face 2", x.strike(0, 0, 2, 2, true), FaceRounds.BAD_VALUE);
        due.of("face -1", x.strike(0, 0, 2, -1, true), FaceRounds.BAD_VALUE);
        due.of("face before target", x.strike(0, 0, 6, 2, true), FaceRounds.BAD_VALUE);
        due.of("not in that face", x.strike(0, 0, 2, 1, true), FaceRounds.UNKNOWN);
        due.of("no pointing to it", x.strike(0, 0, 0, 0, true), FaceRounds.UNKNOWN);
        due.of("no pointing, not to be struck", x.strike(0, 0, 0, 0, false), FaceRounds.UNKNOWN);
        due.of("target 6", x.strike(0, 0, 6, 0, true), FaceRounds.UNKNOWN);
        due.of("target -1", x.strike(0, 0, -1, 0, true), FaceRounds.UNKNOWN);
        due.of("so already", x.strike(0, 0, 2, 0, false), FaceRounds.NONE);
        due.of("count(7)", x.count(7), 3);
        x.strike(0, 0, 2, 0, true);
        due.of("struck already", x.strike(0, 0, 2, 0, true), FaceRounds.NONE);
        due.of("count(7)", x.count(7), 4);
        due.of("count(3)", x.count(3), 1);
        x.wipe(0, 0, 2);
        due.of("wiped", x.strike(0, 0, 2, 0, true), FaceRounds.UNKNOWN);
        x.point(0, 0, 2, 0, 5);
        due.of("pointed at anew", x.pointing(0, 0, 0, 0, 2), 0);
    }

    private static void wipe() {
        due.in("promise 8");
        FaceRounds x = Books.withRounds(1);
        x.point(0, 0, 0, 0, 100);
        x.point(0, 0, 1, 0, 200);
        x.point(0, 0, 2, 0, 300);
        x.point(0, 0, 3, 0, 400);
        x.point(0, 0, 3, 1, 500);
        x.point(0, 0, 1, 1, 600);
        x.strike(0, 0, 1, 1, true);
        x.strike(0, 0, 2, 0, true);
        due.of("wipe(0, 0, 1)", x.wipe(0, 0, 1), 2);
        due.of("round(0, 0, 0)", x.round(0, 0, 0), 3);
        due.of("round(0, 0, 1)", x.round(0, 0, 1), 1);
        due.of("count(3)", x.count(3), 1);
        int[] targets = {0, 2, 3};
        for (int place = 0; place < 3; place++) {
            due.of("target at " + place, x.pointing(0, 0, 0, place, 0), targets[place]);
            due.of("reading at " + place, x.pointing(0, 0, 0, place, 1), 100 + targets[place] * 100);
            due.of("struck at " + place, x.pointing(0, 0, 0, place, 2), place == 1 ? 1 : 0);
        }
        due.of("no fourth one", x.pointing(0, 0, 0, 3, 0), FaceRounds.NONE);
        due.of("wipe(0, 0, 0), first in an open face", x.wipe(0, 0, 0), 1);
        due.of("point at it again", x.point(0, 0, 0, 0, 700), 3);
        due.of("it is the last one", x.pointing(0, 0, 0, 2, 0), 0);
        due.of("undo()", x.undo(), 3);
        due.of("undo()", x.undo(), 2);
        due.of("back in its place", x.pointing(0, 0, 0, 0, 1), 100);
        due.of("undo()", x.undo(), 1);
        due.of("both are back", x.count(2), 6);
        due.of("as it was", x.pointing(0, 0, 1, 1, 2), 1);
    }

    private static void wipeWrongly() {
        due.in("promise 8, errors");
        FaceRounds x = Books.withRounds(2);
        x.point(0, 0, 0, 0, 100);
        x.point(0, 0, 1, 0, 200);
        x.point(0, 0, 1, 1, 300);
        x.point(0, 0, 0, 1, 400);
        x.close(0, 0, 1, 310);
        due.of("no such set-up", x.wipe(1, 0, 0), FaceRounds.UNKNOWN);
        due.of("no such round", x.wipe(0, 2, 0), FaceRounds.UNKNOWN);
        due.of("target 6", x.wipe(0, 0, 6), FaceRounds.UNKNOWN);
        due.of("target -1", x.wipe(0, 0, -1), FaceRounds.UNKNOWN);
        due.of("first in the closed face 1", x.wipe(0, 0, 1), FaceRounds.NOT_POSSIBLE);
        due.of("nothing is wiped", x.count(2), 4);
        due.of("no pointing", x.wipe(0, 0, 2), FaceRounds.NONE);
        due.of("no pointing in round 1", x.wipe(0, 1, 0), FaceRounds.NONE);
        due.of("count(7)", x.count(7), 4);
        due.of("second in the closed face", x.wipe(0, 0, 0), 2);
        due.of("the drift stays", x.round(0, 0, 3), 10);
        due.of("not possible again", x.wipe(0, 0, 1), FaceRounds.NOT_POSSIBLE);
        x.strike(0, 0, 1, 1, true);
        due.of("struck ones, too", x.wipe(0, 0, 1), FaceRounds.NOT_POSSIBLE);
    }

    private static void pointing() {
        due.in("promise 18");
        FaceRounds x = Books.withRounds(2);
        x.point(0, 1, 5, 0, 123);
        x.point(0, 1, 2, 1, 456);
        x.point(0, 1, 5, 1, 789);
        x.strike(0, 1, 5, 1, true);
        int[][] face1 = {{2, 456, 0, 456}, {5, 789, 1, 789}};
        for (int place = 0; place < 2; place++) {
            for (int what = 0; what < 4; what++) {
                due.of("place " + place + ", what " + what, x.pointing(0, 1, 1, place, what), face1[place][what]);
            }
        }
        due.of("face 0", x.pointing(0, 1, 0, 0, 1), 123);
        due.of("round 0", x.pointing(0, 0, 0, 0, 1), FaceRounds.NONE);
    }

    private static void corrected() {
        due.in("promise 18, corrected");
        int[] closings = {110, 90, 100};
        int[][] answers = {{100, 197, 294}, {100, 204, 307}, {100, 200, 300}};
        for (int i = 0; i < closings.length; i++) {
            FaceRounds x = Books.withRounds(1);
            x.point(0, 0, 0, 0, 100);
            x.point(0, 0, 1, 0, 200);
            x.point(0, 0, 2, 0, 300);
            x.strike(0, 0, 1, 0, true);
            x.point(0, 0, 2, 1, 300);
            x.close(0, 0, 0, closings[i]);
            for (int place = 0; place < 3; place++) {
                due.of("closed by " + closings[i], x.pointing(0, 0, 0, place, 3), answers[i][place]);
            }
            due.of("the open face", x.pointing(0, 0, 1, 0, 3), 300);
        }
        FaceRounds x = Books.withRounds(1);
        x.point(0, 0, 0, 0, 100);
        x.point(0, 0, 1, 0, 0);
        x.close(0, 0, 0, 110);
        due.of("below 0", x.pointing(0, 0, 0, 1, 3), -5);
        x.point(0, 0, 0, 1, 100);
        x.point(0, 0, 1, 1, 1295999);
        x.close(0, 0, 1, 90);
        due.of("above a full circle", x.pointing(0, 0, 1, 1, 3), 1296004);
    }

    private static void correctedAfterWiping() {
        due.in("promise 18, corrected after wiping");
        FaceRounds x = Books.withRounds(1);
        x.point(0, 0, 0, 0, 100);
        x.point(0, 0, 1, 0, 200);
        x.point(0, 0, 2, 0, 300);
        x.point(0, 0, 3, 0, 400);
        x.close(0, 0, 0, 112);
        due.of("place 3 of 4", x.pointing(0, 0, 0, 3, 3), 391);
        x.wipe(0, 0, 1);
        due.of("place 1 of 3", x.pointing(0, 0, 0, 1, 3), 296);
        due.of("place 2 of 3", x.pointing(0, 0, 0, 2, 3), 392);
        x.wipe(0, 0, 3);
        due.of("place 1 of 2", x.pointing(0, 0, 0, 1, 3), 294);
        x.strike(0, 0, 2, 0, true);
        due.of("struck", x.pointing(0, 0, 0, 1, 3), 294);
        x.wipe(0, 0, 2);
        due.of("place 0 of 1", x.pointing(0, 0, 0, 0, 3), 100);
    }

    private static void pointingWrongly() {
        due.in("promise 18, errors");
        FaceRounds x = Books.withRounds(1);
        x.point(0, 0, 0, 0, 5);
        due.of("no such set-up", x.pointing(1, 0, 0, 0, 0), FaceRounds.UNKNOWN);
        due.of("no such round", x.pointing(0, 1, 2, -1, 4), FaceRounds.UNKNOWN);
        due.of("face 2", x.pointing(0, 0, 2, 0, 0), FaceRounds.BAD_VALUE);
        due.of("face -1", x.pointing(0, 0, -1, 0, 0), FaceRounds.BAD_VALUE);
        due.of("place -1", x.pointing(0, 0, 0, -1, 0), FaceRounds.BAD_VALUE);
        due.of("place min", x.pointing(0, 0, 0, Integer.MIN_VALUE, 0), FaceRounds.BAD_VALUE);
        due.of("what 4", x.pointing(0, 0, 0, 0, 4), FaceRounds.BAD_VALUE);
        due.of("what -1", x.pointing(0, 0, 0, 0, -1), FaceRounds.BAD_VALUE);
        due.of("what 4 before the place", x.pointing(0, 0, 0, 1, 4), FaceRounds.BAD_VALUE);
        due.of("place 1", x.pointing(0, 0, 0, 1, 0), FaceRounds.NONE);
        due.of("place 6", x.pointing(0, 0, 0, 6, 0), FaceRounds.NONE);
        due.of("place max", x.pointing(0, 0, 0, Integer.MAX_VALUE, 3), FaceRounds.NONE);
        due.of("face 1", x.pointing(0, 0, 1, 0, 0), FaceRounds.NONE);
    }
}
