/** Promises 10, 11, 12 and 25: setLimit, centre, setDistance, centring. */
public final class SettingsTest {
    private static final Due due = new Due();

    public static void main(String[] args) {
        setLimit();
        centre();
        setDistance();
        distanceFromAllSetUps();
        centring();
        due.end();
    }

    private static void setLimit() {
        due.in("promise 10");
        FaceRounds x = new FaceRounds();
        due.of("setLimit(1)", x.setLimit(1), 20);
        due.of("setLimit(600)", x.setLimit(600), 1);
        due.of("count(5)", x.count(5), 600);
        due.of("setLimit(600)", x.setLimit(600), FaceRounds.NONE);
        due.of("setLimit(0)", x.setLimit(0), FaceRounds.BAD_VALUE);
        due.of("setLimit(-20)", x.setLimit(-20), FaceRounds.BAD_VALUE);
        due.of("setLimit(601)", x.setLimit(601), FaceRounds.BAD_VALUE);
        due.of("setLimit(max)", x.setLimit(Integer.MAX_VALUE), FaceRounds.BAD_VALUE);
        due.of("count(5)", x.count(5), 600);
        due.of("count(7)", x.count(7), 2);
        due.of("undo()", x.undo(), 1);
        due.of("count(5)", x.count(5), 1);
    }

    private static void centre() {
        due.in("promise 11");
        FaceRounds x = new FaceRounds();
        x.setUp();
        x.setUp();
        due.of("centre(1, 99, 23)", x.centre(1, 99, 23), 0);
        due.of("centre(1, 99, 0)", x.centre(1, 99, 0), 9923);
        due.of("centre(1, 0, 5)", x.centre(1, 0, 5), 9900);
        due.of("centre(1, 7, 5)", x.centre(1, 7, 5), 5);
        due.of("centre(1, 7, 5)", x.centre(1, 7, 5), FaceRounds.NONE);
        due.of("centre(0, 0, 0)", x.centre(0, 0, 0), FaceRounds.NONE);
        due.of("count(7)", x.count(7), 4);
        due.of("centring(1, false)", x.centring(1, false), 7);
        due.of("centring(1, true)", x.centring(1, true), 5);
        due.of("centring(0, false)", x.centring(0, false), 0);
        due.of("centring(0, true)", x.centring(0, true), 0);
        due.of("no such set-up", x.centre(2, 100, 0), FaceRounds.UNKNOWN);
        due.of("negative set-up", x.centre(-1, 0, 0), FaceRounds.UNKNOWN);
        due.of("offset 100", x.centre(1, 100, 0), FaceRounds.BAD_VALUE);
        due.of("offset -1", x.centre(1, -1, 0), FaceRounds.BAD_VALUE);
        due.of("sector 24", x.centre(1, 7, 24), FaceRounds.BAD_VALUE);
        due.of("sector -1", x.centre(1, 7, -1), FaceRounds.BAD_VALUE);
        due.of("centring(1, false)", x.centring(1, false), 7);
        due.of("undo()", x.undo(), 3);
        due.of("centring(1, false)", x.centring(1, false), 0);
        due.of("undo()", x.undo(), 2);
        due.of("centring(1, true)", x.centring(1, true), 0);
    }

    private static void setDistance() {
        due.in("promise 12");
        FaceRounds x = new FaceRounds();
        due.of("setDistance(0, 1)", x.setDistance(0, 1), 100);
        due.of("setDistance(5, 9999)", x.setDistance(5, 9999), 100);
        due.of("setDistance(0, 2)", x.setDistance(0, 2), 1);
        due.of("setDistance(5, 9999)", x.setDistance(5, 9999), FaceRounds.NONE);
        due.of("setDistance(4, 100)", x.setDistance(4, 100), FaceRounds.NONE);
        due.of("target 6", x.setDistance(6, 0), FaceRounds.UNKNOWN);
        due.of("target -1", x.setDistance(-1, 5), FaceRounds.UNKNOWN);
        due.of("distance 0", x.setDistance(3, 0), FaceRounds.BAD_VALUE);
        due.of("distance -100", x.setDistance(3, -100), FaceRounds.BAD_VALUE);
        due.of("distance 10000", x.setDistance(3, 10000), FaceRounds.BAD_VALUE);
        due.of("count(7)", x.count(7), 3);
        due.of("undo()", x.undo(), 2);
        due.of("setDistance(0, 3)", x.setDistance(0, 3), 1);
    }

    private static void distanceFromAllSetUps() {
        due.in("promise 12, the same from all set-ups");
        FaceRounds x = new FaceRounds();
        for (int setUp = 0; setUp < 4; setUp++) {
            x.setUp();
            x.begin(setUp);
            Books.sight(x, setUp, 0, 0, 0);
            x.centre(setUp, 10 * (setUp + 1), 6);
        }
        int[] at100 = {20, 41, 61, 82};
        int[] at50 = {41, 82, 123, 165};
        for (int setUp = 0; setUp < 4; setUp++) {
            due.of("distance 100 from " + setUp, x.direction(setUp, 0, 1), at100[setUp]);
        }
        x.setDistance(0, 50);
        for (int setUp = 0; setUp < 4; setUp++) {
            due.of("distance 50 from " + setUp, x.direction(setUp, 0, 1), at50[setUp]);
        }
        x.undo();
        due.of("undone", x.direction(3, 0, 1), 82);
    }

    private static void centring() {
        due.in("promise 25");
        FaceRounds x = new FaceRounds();
        x.setUp();
        x.setUp();
        x.centre(0, 31, 17);
        due.of("offset", x.centring(0, false), 31);
        due.of("sector", x.centring(0, true), 17);
        due.of("offset of the other one", x.centring(1, false), 0);
        due.of("centring(2, true)", x.centring(2, true), FaceRounds.UNKNOWN);
        due.of("centring(-1, false)", x.centring(-1, false), FaceRounds.UNKNOWN);
    }
}
