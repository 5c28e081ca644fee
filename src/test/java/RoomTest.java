/**
 * What is empty and what is full: at most 4 set-ups, 6 rounds each, 6 targets in a face,
 * 60 characters, 4 states in the history, one snapshot.
 */
public final class RoomTest {
    private static final Due due = new Due();
    private static final int UNKNOWN = FaceRounds.UNKNOWN;
    private static final int FULL = FaceRounds.FULL;
    private static final int NOT_POSSIBLE = FaceRounds.NOT_POSSIBLE;
    private static final int NONE = FaceRounds.NONE;

    public static void main(String[] args) {
        emptyBook();
        emptySetUp();
        emptyRound();
        fourSetUps();
        sixRounds();
        allPointings();
        fullFaceTakesNoMore();
        fullBookIsUndone();
        fullBookIsRestored();
        sixtyCharacters();
        historyOfFour();
        historyOfFourIsUndoneAndFilledAnew();
        snapshotOfTheEmptyBook();
        oneSnapshot();
        due.end();
    }

    private static int readingOf(int setUp, int round, int target, int face) {
        return setUp * 300000 + round * 40000 + target * 1001 + face * 17;
    }

    /** Four set-ups with six rounds each, without pointings: 28 calls. */
    private static FaceRounds withAllRounds() {
        FaceRounds x = new FaceRounds();
        for (int setUp = 0; setUp < 4; setUp++) {
            x.setUp();
            for (int round = 0; round < 6; round++) {
                x.begin(setUp);
            }
        }
        return x;
    }

    /** All pointings of one set-up, in face 1 from the last target to the first: 72 calls. */
    private static void fill(FaceRounds x, int setUp) {
        for (int round = 0; round < 6; round++) {
            for (int place = 0; place < 6; place++) {
                x.point(setUp, round, place, 0, readingOf(setUp, round, place, 0));
                x.point(setUp, round, 5 - place, 1, readingOf(setUp, round, 5 - place, 1));
            }
        }
    }

    /** Compares all pointings of a set-up; struck is the target that is struck in all rounds, or -1. */
    private static void compareAll(FaceRounds x, int setUp, int struck) {
        for (int round = 0; round < 6; round++) {
            for (int place = 0; place < 6; place++) {
                compareOne(x, setUp, round, 0, place, place);
                compareOne(x, setUp, round, 1, place, 5 - place);
            }
        }
        for (int place = 0; struck >= 0 && place < 72; place++) {
            int target = place / 6 % 2 == 0 ? place % 6 : 5 - place % 6;
            int told = x.pointing(setUp, place / 12, place / 6 % 2, place % 6, 2);
            due.of("struck at " + place + " of 72", told, target == struck ? 1 : 0);
        }
    }

    private static void compareOne(FaceRounds x, int setUp, int round, int face, int place, int target) {
        String at = "(" + setUp + ", " + round + ", " + face + ", " + place + ")";
        due.of("target at " + at, x.pointing(setUp, round, face, place, 0), target);
        due.of("reading at " + at, x.pointing(setUp, round, face, place, 1), readingOf(setUp, round, target, face));
    }

    private static void emptyBook() {
        due.in("the book without set-ups");
        FaceRounds x = new FaceRounds();
        int[] answers = {
            x.begin(0), x.point(0, 0, 0, 0, 0), x.pointAll(0, 0), x.close(0, 0, 0, 0), x.strike(0, 0, 0, 0, true),
            x.wipe(0, 0, 0), x.clean(0), x.centre(0, 0, 0), x.pointing(0, 0, 0, 0, 0), x.round(0, 0, 0),
            x.reduced(0, 0, 0, 0), x.direction(0, 0, 0), x.angle(0, 0, 0, false), x.byAngles(0, 0),
            x.centring(0, false)
        };
        for (int i = 0; i < answers.length; i++) {
            due.of("call " + i, answers[i], UNKNOWN);
        }
        due.of("setDistance(0, 1)", x.setDistance(0, 1), 100);
    }

    private static void emptySetUp() {
        due.in("a set-up without rounds");
        FaceRounds x = Books.withRounds(0);
        due.of("round 0", x.round(0, 0, 0), UNKNOWN);
        due.of("point", x.point(0, 0, 0, 0, 0), UNKNOWN);
        due.of("clean(0)", x.clean(0), NONE);
        due.of("direction", x.direction(0, 0, 0), NONE);
        due.of("rounds of target 0", x.direction(0, 0, 4), 0);
        due.of("angle", x.angle(0, 0, 0, false), NONE);
        due.of("byAngles", x.byAngles(0, 0), NONE);
        due.of("rounds", x.count(1), 0);
        due.of("bad targets", x.count(4), 0);
        due.of("centre", x.centre(0, 1, 0), 0);
    }

    private static void emptyRound() {
        due.in("a round without pointings");
        FaceRounds x = Books.withRounds(1);
        int[] answers = {0, 0, NONE, NONE, 0, 0, NONE, 0};
        for (int what = 0; what < 8; what++) {
            due.of("what " + what, x.round(0, 0, what), answers[what]);
        }
        for (int target = 0; target < 6; target++) {
            due.of("why not", x.reduced(0, 0, target, 3), 1);
            due.of("wipe", x.wipe(0, 0, target), NONE);
            due.of("rounds", x.direction(0, target, 4), 0);
        }
        due.of("close", x.close(0, 0, 0, 0), NOT_POSSIBLE);
        due.of("clean(0)", x.clean(0), NONE);
    }

    private static void fourSetUps() {
        due.in("at most 4 set-ups");
        FaceRounds x = new FaceRounds();
        for (int number = 0; number < 4; number++) {
            due.of("set-up " + number + " is not there", x.begin(number), UNKNOWN);
            due.of("setUp()", x.setUp(), number);
        }
        due.of("a fifth one", x.setUp(), FULL);
        due.of("a sixth one", x.setUp(), FULL);
        due.of("begin(4)", x.begin(4), UNKNOWN);
        for (int number = 0; number < 4; number++) {
            due.of("begin in each of them", x.begin(number), 0);
            due.of("centre in each of them", x.centre(number, number + 1, number + 2), 0);
        }
        for (int number = 0; number < 4; number++) {
            due.of("its offset", x.centring(number, false), number + 1);
            due.of("its sector", x.centring(number, true), number + 2);
        }
        due.of("undo()", x.undo(), 3);
        due.of("the last offset", x.centring(3, false), 0);
        due.of("the last sector", x.centring(3, true), 0);
        due.of("undo()", x.undo(), 2);
        due.of("the last round", x.round(3, 0, 0), UNKNOWN);
    }

    private static void sixRounds() {
        due.in("at most 6 rounds in each set-up");
        FaceRounds x = withAllRounds();
        for (int setUp = 0; setUp < 4; setUp++) {
            due.of("a seventh round", x.begin(setUp), FULL);
            due.of("round 5", x.round(setUp, 5, 0), 0);
            due.of("round 6", x.round(setUp, 6, 0), UNKNOWN);
        }
        due.of("all rounds", x.count(1), 24);
        due.of("begin(0)", x.begin(0), FULL);
    }

    private static void allPointings() {
        due.in("all pointings that there can be");
        for (int setUp = 0; setUp < 4; setUp++) {
            FaceRounds x = withAllRounds();
            for (int other = 0; other < 4; other++) {
                fill(x, other);
            }
            due.of("count(2)", x.count(2), 288);
            compareAll(x, setUp, -1);
        }
        FaceRounds x = withAllRounds();
        for (int setUp = 0; setUp < 4; setUp++) {
            fill(x, setUp);
        }
        for (int face = 0; face < 48; face++) {
            int first = face % 2 == 0 ? 0 : 5;
            int reading = readingOf(face / 12, face / 2 % 6, first, face % 2);
            due.of("close", x.close(face / 12, face / 2 % 6, face % 2, reading + face), face);
        }
        due.of("count(6)", x.count(6), 48);
        due.of("the last drift", x.round(3, 5, 3), 47);
        due.of("the drift before it", x.round(3, 5, 2), 46);
        due.of("the first drift", x.round(0, 0, 2), 0);
    }

    private static void fullFaceTakesNoMore() {
        due.in("each target at most once in each face");
        FaceRounds x = Books.withRounds(1);
        fill(x, 0);
        for (int target = 0; target < 6; target++) {
            due.of("point in face 0", x.point(0, 0, target, 0, 5), NOT_POSSIBLE);
            due.of("point in face 1", x.point(0, 0, target, 1, 5), NOT_POSSIBLE);
        }
        due.of("target 6", x.point(0, 0, 6, 0, 5), UNKNOWN);
        due.of("round(0, 0, 0)", x.round(0, 0, 0), 6);
        due.of("round(0, 0, 1)", x.round(0, 0, 1), 6);
        for (int target = 0; target < 6; target++) {
            due.of("strike", x.strike(0, 0, target, 0, true), target * 2 + 1);
            due.of("strike", x.strike(0, 0, target, 1, true), target * 2 + 2);
        }
        due.of("all are struck", x.round(0, 0, 5), 12);
        due.of("wipe", x.wipe(0, 0, 5), 2);
        due.of("all but two are struck", x.count(3), 10);
        due.of("point again", x.point(0, 0, 5, 0, 5), 6);
    }

    private static void fullBookIsUndone() {
        due.in("undo of a book that is full");
        for (int setUp = 0; setUp < 4; setUp++) {
            FaceRounds x = withAllRounds();
            fill(x, setUp);
            for (int round = 0; round < 6; round++) {
                x.strike(setUp, round, 2, 0, true);
                x.strike(setUp, round, 2, 1, true);
                x.wipe(setUp, round, 0);
                due.of("undo()", x.undo(), 3);
                x.strike(setUp, round, 3, 0, true);
                due.of("undo()", x.undo(), 3);
                x.strike(setUp, round, 3, 1, true);
                due.of("undo()", x.undo(), 3);
            }
            compareAll(x, setUp, 2);
            for (int face = 0; face < 2; face++) {
                x.close(setUp, 5, face, 0);
                due.of("undo()", x.undo(), 3);
                due.of("not closed", x.round(setUp, 5, 2 + face), NONE);
            }
        }
    }

    private static void fullBookIsRestored() {
        due.in("restore of a book that is full");
        for (int setUp = 0; setUp < 4; setUp++) {
            FaceRounds x = withAllRounds();
            fill(x, setUp);
            for (int round = 0; round < 6; round++) {
                x.strike(setUp, round, 4, 0, true);
                x.strike(setUp, round, 4, 1, true);
            }
            x.setDistance(5, 7);
            due.of("keep()", x.keep(), 4);
            for (int round = 0; round < 6; round++) {
                x.wipe(setUp, round, 4);
                x.wipe(setUp, round, 5);
                x.strike(setUp, round, 0, 0, true);
                x.close(setUp, round, 0, 0);
                x.close(setUp, round, 1, 0);
            }
            x.setDistance(5, 8);
            due.of("restore()", x.restore(), 4);
            compareAll(x, setUp, 4);
            due.of("distance", x.setDistance(5, 9), 7);
            due.of("count(6)", x.count(6), 0);
            x.undo();
            due.of("undo()", x.undo(), 2);
            due.of("count(6) before it", x.count(6), 12);
            due.of("count(2) before it", x.count(2), 48);
        }
    }

    private static void sixtyCharacters() {
        due.in("at most 60 characters");
        FaceRounds x = Books.withRounds(1);
        due.of("empty at first", x.count(8), 0);
        due.of("clearText() of the empty text", x.clearText(), 0);
        String text = "0l1:20:30;1l1:20:30;2l1:20:30;3l1:20:30;4l1:20:30;5l10:20:30";
        for (int i = 0; i < 60; i++) {
            due.of("type", x.type(text.charAt(i)), i + 1);
        }
        due.of("type the 61st one", x.type('0'), FULL);
        due.of("type once more", x.type(';'), FULL);
        due.of("all 60 are read", x.pointAll(0, 0), 6);
        due.of("the last one", x.pointing(0, 0, 0, 5, 1), 37230);
        due.of("clearText()", x.clearText(), 60);
        due.of("type", x.type('0'), 1);
        due.of("nothing is left of the text before", x.pointAll(0, 0), -2000101);
    }

    private static void historyOfFour() {
        due.in("a history of at most 4 states");
        FaceRounds x = new FaceRounds();
        due.of("empty at first", x.count(7), 0);
        due.of("undo()", x.undo(), NONE);
        int[] limits = {11, 12, 13, 14, 15, 16};
        int[] states = {1, 2, 3, 4, 4, 4};
        for (int i = 0; i < 6; i++) {
            due.of("setLimit", x.setLimit(limits[i]), i == 0 ? 20 : limits[i - 1]);
            due.of("count(7)", x.count(7), states[i]);
        }
        for (int left = 3; left >= 0; left--) {
            due.of("undo()", x.undo(), left);
            due.of("count(7)", x.count(7), left);
            due.of("the limit before", x.count(5), 12 + left);
        }
        due.of("the oldest ones were dropped", x.undo(), NONE);
        due.of("the limit stays", x.count(5), 12);
    }

    private static void historyOfFourIsUndoneAndFilledAnew() {
        due.in("the history filled anew");
        FaceRounds x = new FaceRounds();
        for (int limit = 1; limit <= 7; limit++) {
            x.setLimit(limit);
        }
        due.of("undo()", x.undo(), 3);
        due.of("undo()", x.undo(), 2);
        due.of("limit", x.count(5), 5);
        for (int limit = 101; limit <= 103; limit++) {
            x.setLimit(limit);
        }
        due.of("count(7)", x.count(7), 4);
        int[] before = {102, 101, 5, 4};
        for (int i = 0; i < 4; i++) {
            due.of("undo()", x.undo(), 3 - i);
            due.of("the limit before", x.count(5), before[i]);
        }
        due.of("undo()", x.undo(), NONE);
    }

    private static void snapshotOfTheEmptyBook() {
        due.in("a snapshot of the empty book");
        FaceRounds x = new FaceRounds();
        due.of("no snapshot at first", x.restore(), NONE);
        due.of("keep()", x.keep(), 0);
        due.of("keep() is no act", x.count(7), 0);
        x.setUp();
        x.begin(0);
        due.of("restore()", x.restore(), 0);
        due.of("count(0)", x.count(0), 0);
        due.of("restore() is an act", x.count(7), 3);
        due.of("restore() of the same state is one, too", x.restore(), 0);
        due.of("count(7)", x.count(7), 4);
        due.of("undo()", x.undo(), 3);
        due.of("undo()", x.undo(), 2);
        due.of("count(1)", x.count(1), 1);
    }

    private static void oneSnapshot() {
        due.in("one snapshot, in place of the one that was");
        FaceRounds x = new FaceRounds();
        x.setLimit(31);
        x.setUp();
        due.of("keep()", x.keep(), 1);
        x.setLimit(32);
        x.setUp();
        due.of("keep()", x.keep(), 2);
        x.setLimit(33);
        x.setUp();
        due.of("restore()", x.restore(), 2);
        due.of("limit", x.count(5), 32);
        due.of("the snapshot stays", x.restore(), 2);
        due.of("limit", x.count(5), 32);
        for (int i = 0; i < 4; i++) {
            x.undo();
        }
        due.of("undo leaves the snapshot", x.restore(), 2);
        due.of("limit", x.count(5), 32);
    }
}
