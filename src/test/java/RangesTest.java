/**
 * The ranges of all arguments, promise by promise: both ends of a range are
 * taken, what is beside them and the ends of int are refused by the error that
 * the promise names. Each call is made on a book of its own.
 */
public final class RangesTest {
    private static final Due due = new Due();
    private static final int UNKNOWN = FaceRounds.UNKNOWN;
    private static final int BAD_VALUE = FaceRounds.BAD_VALUE;
    private static final int NONE = FaceRounds.NONE;

    private interface Call {
        int with(int value);
    }

    public static void main(String[] args) {
        begin();
        point();
        pointAll();
        close();
        strike();
        wipe();
        clean();
        setLimit();
        centre();
        setDistance();
        pointing();
        placeOfPointing();
        round();
        reduced();
        direction();
        angle();
        byAngles();
        count();
        centring();
        roundsOfTheirSetUp();
        readingsAreKept();
        settingsAreKept();
        due.end();
    }

    /**
     * Three set-ups with three, two and no rounds; in the round 0 of the first one the
     * targets 0 and 1 are pointed at in both faces, in its round 1 all targets, in both faces.
     */
    private static FaceRounds book() {
        FaceRounds x = Books.withRounds(3);
        x.setUp();
        x.begin(1);
        x.begin(1);
        x.setUp();
        Books.sight(x, 0, 0, 0, 10);
        Books.sight(x, 0, 0, 1, 2000);
        for (int target = 0; target < 6; target++) {
            Books.sight(x, 0, 1, target, target * 1000);
        }
        Books.typeAll(x, "5r0:0:0");
        return x;
    }

    private static void range(String argument, int least, int most, int error, Call call) {
        taken(argument + " " + least, call.with(least));
        taken(argument + " " + most, call.with(most));
        due.of(argument + " " + (least - 1), call.with(least - 1), error);
        due.of(argument + " " + (most + 1), call.with(most + 1), error);
        due.of(argument + " at the least int", call.with(Integer.MIN_VALUE), error);
        due.of(argument + " at the greatest int", call.with(Integer.MAX_VALUE), error);
    }

    private static void taken(String argument, int answer) {
        due.of(argument + " is refused", answer == UNKNOWN || answer == BAD_VALUE ? answer : 0, 0);
    }

    private static void begin() {
        due.in("promise 3, ranges");
        range("set-up", 0, 2, UNKNOWN, v -> book().begin(v));
    }

    private static void point() {
        due.in("promise 4, ranges");
        range("set-up", 0, 1, UNKNOWN, v -> book().point(v, 0, 2, 0, 5));
        range("round", 0, 2, UNKNOWN, v -> book().point(0, v, 2, 0, 5));
        range("target", 0, 5, UNKNOWN, v -> book().point(0, 2, v, 0, 5));
        range("face", 0, 1, BAD_VALUE, v -> book().point(0, 2, 2, v, 5));
        range("reading", 0, 1295999, BAD_VALUE, v -> book().point(0, 2, 2, 0, v));
        range("reading in face 1", 0, 1295999, BAD_VALUE, v -> book().point(0, 2, 2, 1, v));
    }

    private static void pointAll() {
        due.in("promise 5, ranges");
        range("set-up", 0, 1, UNKNOWN, v -> book().pointAll(v, 0));
        range("round", 0, 2, UNKNOWN, v -> book().pointAll(0, v));
    }

    private static void close() {
        due.in("promise 6, ranges");
        range("set-up", 0, 1, UNKNOWN, v -> book().close(v, 0, 0, 5));
        range("round", 0, 2, UNKNOWN, v -> book().close(0, v, 0, 5));
        range("face", 0, 1, BAD_VALUE, v -> book().close(0, 0, v, 5));
        range("reading", 0, 1295999, BAD_VALUE, v -> book().close(0, 0, 0, v));
        range("reading in face 1", 0, 1295999, BAD_VALUE, v -> book().close(0, 0, 1, v));
    }

    private static void strike() {
        due.in("promise 7, ranges");
        range("round", 0, 1, UNKNOWN, v -> book().strike(0, v, 0, 0, true));
        range("target", 0, 5, UNKNOWN, v -> book().strike(0, 1, v, 0, true));
        range("target, taken back", 0, 5, UNKNOWN, v -> book().strike(0, 1, v, 1, false));
        range("face", 0, 1, BAD_VALUE, v -> book().strike(0, 0, 0, v, true));
        range("set-up, but the first one has no such pointing", 0, 0, UNKNOWN, v -> book().strike(v, 0, 0, 0, true));
    }

    private static void wipe() {
        due.in("promise 8, ranges");
        range("set-up", 0, 1, UNKNOWN, v -> book().wipe(v, 0, 0));
        range("round", 0, 2, UNKNOWN, v -> book().wipe(0, v, 0));
        range("target", 0, 5, UNKNOWN, v -> book().wipe(0, 1, v));
        range("target where there is none", 0, 5, UNKNOWN, v -> book().wipe(0, 2, v));
    }

    private static void clean() {
        due.in("promise 9, ranges");
        range("set-up", 0, 2, UNKNOWN, v -> book().clean(v));
    }

    private static void setLimit() {
        due.in("promise 10, ranges");
        range("limit", 1, 600, BAD_VALUE, v -> book().setLimit(v));
    }

    private static void centre() {
        due.in("promise 11, ranges");
        range("set-up", 0, 2, UNKNOWN, v -> book().centre(v, 5, 5));
        range("offset", 0, 99, BAD_VALUE, v -> book().centre(0, v, 5));
        range("sector", 0, 23, BAD_VALUE, v -> book().centre(0, 5, v));
    }

    private static void setDistance() {
        due.in("promise 12, ranges");
        range("target", 0, 5, UNKNOWN, v -> book().setDistance(v, 5));
        range("distance", 1, 9999, BAD_VALUE, v -> book().setDistance(5, v));
    }

    private static void pointing() {
        due.in("promise 18, ranges");
        range("set-up", 0, 1, UNKNOWN, v -> book().pointing(v, 0, 0, 0, 0));
        range("round", 0, 2, UNKNOWN, v -> book().pointing(0, v, 0, 0, 0));
        range("face", 0, 1, BAD_VALUE, v -> book().pointing(0, 0, v, 0, 0));
        range("what", 0, 3, BAD_VALUE, v -> book().pointing(0, 0, 0, 0, v));
        range("what, of no pointing", 0, 3, BAD_VALUE, v -> book().pointing(0, 2, 0, 0, v));
    }

    private static void placeOfPointing() {
        due.in("promise 18, place");
        due.of("the last place", book().pointing(0, 1, 0, 5, 0), 5);
        due.of("place 6 of 6", book().pointing(0, 1, 0, 6, 0), NONE);
        due.of("place 1 of 2", book().pointing(0, 0, 0, 1, 0), 1);
        due.of("place 2 of 2", book().pointing(0, 0, 0, 2, 0), NONE);
        due.of("place 0 of none", book().pointing(0, 2, 0, 0, 0), NONE);
        due.of("the greatest place", book().pointing(0, 1, 0, Integer.MAX_VALUE, 0), NONE);
        due.of("place -1", book().pointing(0, 1, 0, -1, 0), BAD_VALUE);
        due.of("the least place", book().pointing(0, 1, 0, Integer.MIN_VALUE, 0), BAD_VALUE);
    }

    private static void round() {
        due.in("promise 19, ranges");
        range("set-up", 0, 1, UNKNOWN, v -> book().round(v, 0, 0));
        range("round", 0, 2, UNKNOWN, v -> book().round(0, v, 0));
        range("what", 0, 7, BAD_VALUE, v -> book().round(0, 0, v));
    }

    private static void reduced() {
        due.in("promise 20, ranges");
        range("set-up", 0, 1, UNKNOWN, v -> book().reduced(v, 0, 0, 0));
        range("round", 0, 2, UNKNOWN, v -> book().reduced(0, v, 0, 0));
        range("target", 0, 5, UNKNOWN, v -> book().reduced(0, 1, v, 0));
        range("target that is asked why", 0, 5, UNKNOWN, v -> book().reduced(0, 1, v, 3));
        range("what", 0, 3, BAD_VALUE, v -> book().reduced(0, 1, 1, v));
        range("what, where it is not used", 0, 3, BAD_VALUE, v -> book().reduced(0, 2, 1, v));
    }

    private static void direction() {
        due.in("promise 21, ranges");
        range("set-up", 0, 2, UNKNOWN, v -> book().direction(v, 0, 0));
        range("target", 0, 5, UNKNOWN, v -> book().direction(0, v, 0));
        range("target that is asked for rounds", 0, 5, UNKNOWN, v -> book().direction(0, v, 4));
        range("what", 0, 4, BAD_VALUE, v -> book().direction(0, 1, v));
        range("what, where it is not used", 0, 4, BAD_VALUE, v -> book().direction(1, 1, v));
    }

    private static void angle() {
        due.in("promise 22, ranges");
        range("set-up", 0, 2, UNKNOWN, v -> book().angle(v, 0, 1, false));
        range("the one", 0, 5, UNKNOWN, v -> book().angle(0, v, 1, false));
        range("the other", 0, 5, UNKNOWN, v -> book().angle(0, 1, v, false));
        range("the one, centred", 0, 5, UNKNOWN, v -> book().angle(0, v, 1, true));
        range("the other, centred", 0, 5, UNKNOWN, v -> book().angle(0, 1, v, true));
    }

    private static void byAngles() {
        due.in("promise 23, ranges");
        range("set-up", 0, 2, UNKNOWN, v -> book().byAngles(v, 0));
        range("target", 0, 5, UNKNOWN, v -> book().byAngles(0, v));
    }

    private static void count() {
        due.in("promise 24, ranges");
        range("what", 0, 8, BAD_VALUE, v -> book().count(v));
    }

    private static void centring() {
        due.in("promise 25, ranges");
        range("set-up, offset", 0, 2, UNKNOWN, v -> book().centring(v, false));
        range("set-up, sector", 0, 2, UNKNOWN, v -> book().centring(v, true));
    }

    /** The set-ups have three, two and no rounds: a round of one is none of another. */
    private static void roundsOfTheirSetUp() {
        due.in("rounds belong to their set-up");
        int[] rounds = {3, 2, 0};
        for (int setUp = 0; setUp < 3; setUp++) {
            for (int round = 0; round < 6; round++) {
                boolean there = round < rounds[setUp];
                String place = "(" + setUp + ", " + round + ")";
                int[] answers = {
                    book().point(setUp, round, 5, 0, 0), book().pointAll(setUp, round),
                    book().close(setUp, round, 0, 0), book().wipe(setUp, round, 0),
                    book().pointing(setUp, round, 0, 0, 0), book().round(setUp, round, 0),
                    book().reduced(setUp, round, 0, 0)
                };
                for (int i = 0; i < answers.length; i++) {
                    due.of("call " + i + " of " + place, answers[i] == UNKNOWN ? 1 : 0, there ? 0 : 1);
                }
            }
        }
    }

    private static void readingsAreKept() {
        due.in("readings 0 to 1295999");
        int[] readings = {0, 1, 647999, 648000, 648001, 1295998, 1295999};
        for (int reading : readings) {
            for (int face = 0; face < 2; face++) {
                FaceRounds x = book();
                x.point(0, 2, 3, face, reading);
                due.of("reading " + reading, x.pointing(0, 2, face, 0, 1), reading);
                due.of("corrected " + reading, x.pointing(0, 2, face, 0, 3), reading);
                due.of("closed by " + reading, x.close(0, 2, face, reading), 0);
            }
        }
    }

    private static void settingsAreKept() {
        due.in("settings at the ends of their ranges");
        FaceRounds x = book();
        int[] limits = {1, 600, 2, 599};
        for (int limit : limits) {
            x.setLimit(limit);
            due.of("limit " + limit, x.count(5), limit);
        }
        int[][] centrings = {{99, 23}, {0, 23}, {99, 0}, {0, 0}, {1, 1}};
        for (int[] one : centrings) {
            x.centre(2, one[0], one[1]);
            due.of("offset " + one[0], x.centring(2, false), one[0]);
            due.of("sector " + one[1], x.centring(2, true), one[1]);
        }
        for (int target = 0; target < 6; target++) {
            due.of("the first distance", x.setDistance(target, 1), 100);
            due.of("the least distance", x.setDistance(target, 9999), 1);
            due.of("the greatest distance", x.setDistance(target, 100), 9999);
        }
    }
}
