/** Where several errors can apply, the order of the @return line is the order of the checks. */
public final class OrderTest {
    private static final Due due = new Due();
    private static final int UNKNOWN = FaceRounds.UNKNOWN;
    private static final int BAD_VALUE = FaceRounds.BAD_VALUE;
    private static final int FULL = FaceRounds.FULL;
    private static final int NOT_POSSIBLE = FaceRounds.NOT_POSSIBLE;
    private static final int NONE = FaceRounds.NONE;
    private static final int FAULT_0 = -2000100;

    public static void main(String[] args) {
        begin();
        point();
        pointAll();
        close();
        strike();
        wipe();
        centre();
        setDistance();
        pointing();
        round();
        reduced();
        direction();
        angle();
        byAngles();
        due.end();
    }

    /**
     * Two rounds; in round 0 the targets 1 and 0 are pointed at in face 0, which is closed,
     * and target 1 in face 1, which is open.
     */
    private static FaceRounds book() {
        FaceRounds x = Books.withRounds(2);
        x.point(0, 0, 1, 0, 100);
        x.point(0, 0, 0, 0, 200);
        x.point(0, 0, 1, 1, 300);
        x.close(0, 0, 0, 110);
        return x;
    }

    private static FaceRounds withText(String text) {
        FaceRounds x = book();
        Books.typeAll(x, text);
        return x;
    }

    private static void begin() {
        due.in("promise 3, order");
        FaceRounds x = Books.withRounds(6);
        due.of("a set-up that is not there, beside a full one", x.begin(1), UNKNOWN);
        due.of("a set-up below 0, beside a full one", x.begin(-1), UNKNOWN);
        due.of("the full one", x.begin(0), FULL);
    }

    private static void point() {
        due.in("promise 4, order");
        FaceRounds x = book();
        due.of("set-up, face and reading", x.point(1, 0, 2, 2, -1), UNKNOWN);
        due.of("round and face", x.point(0, 2, 2, 2, 5), UNKNOWN);
        due.of("round and reading", x.point(0, 2, 2, 0, -1), UNKNOWN);
        due.of("target and face", x.point(0, 0, 6, 2, 5), UNKNOWN);
        due.of("target and reading", x.point(0, 0, -1, 1, 1296000), UNKNOWN);
        due.of("target and closed face", x.point(0, 0, 6, 0, 5), UNKNOWN);
        due.of("face and target that is in both faces", x.point(0, 0, 1, 2, 5), BAD_VALUE);
        due.of("reading and target that is there", x.point(0, 0, 1, 1, -1), BAD_VALUE);
        due.of("reading and closed face", x.point(0, 0, 2, 0, 1296000), BAD_VALUE);
        due.of("target that is there and closed face", x.point(0, 0, 1, 0, 5), NOT_POSSIBLE);
    }

    private static void pointAll() {
        due.in("promise 5, order");
        due.of("set-up and fault", withText("x").pointAll(1, 0), UNKNOWN);
        due.of("round and fault", withText("x").pointAll(0, 2), UNKNOWN);
        due.of("set-up and the empty text", withText("").pointAll(-1, 0), UNKNOWN);
        due.of("round and a text for a closed face", withText("2l1:2:3").pointAll(0, -1), UNKNOWN);
        due.of("fault behind a pointing in a closed face", withText("2l1:2:3;x").pointAll(0, 0), FAULT_0 - 8);
        due.of("fault behind one that is there", withText("1r1:2:3;").pointAll(0, 0), FAULT_0 - 8);
        due.of("fault behind one that is twice", withText("2r1:2:3;2r1:2:3?").pointAll(0, 0), FAULT_0 - 15);
        due.of("without the fault", withText("2r1:2:3;2r1:2:3").pointAll(0, 0), NOT_POSSIBLE);
    }

    private static void close() {
        due.in("promise 6, order");
        FaceRounds x = book();
        due.of("set-up and face", x.close(1, 0, 2, 5), UNKNOWN);
        due.of("set-up and reading", x.close(-1, 0, 0, -1), UNKNOWN);
        due.of("round and face", x.close(0, 2, -1, 5), UNKNOWN);
        due.of("round and reading", x.close(0, -1, 0, 1296000), UNKNOWN);
        due.of("reading and closed face", x.close(0, 0, 0, -1), BAD_VALUE);
        due.of("reading and face without a pointing", x.close(0, 1, 0, 1296000), BAD_VALUE);
        due.of("face in a round without a pointing", x.close(0, 1, 2, 5), BAD_VALUE);
    }

    private static void strike() {
        due.in("promise 7, order");
        FaceRounds x = book();
        due.of("set-up and face", x.strike(1, 0, 1, 2, true), UNKNOWN);
        due.of("round and face", x.strike(0, 2, 1, -1, true), UNKNOWN);
        due.of("face and no pointing to the target", x.strike(0, 0, 5, 2, true), BAD_VALUE);
        due.of("face and target 6", x.strike(0, 0, 6, -1, true), BAD_VALUE);
        due.of("face and target below 0", x.strike(0, 0, -1, 2, false), BAD_VALUE);
        due.of("no pointing that would be so already", x.strike(0, 0, 0, 1, false), UNKNOWN);
        due.of("target 6 that would be so already", x.strike(0, 0, 6, 0, false), UNKNOWN);
        due.of("so already", x.strike(0, 0, 1, 1, false), NONE);
    }

    private static void wipe() {
        due.in("promise 8, order");
        FaceRounds x = book();
        due.of("set-up and first in a closed face", x.wipe(1, 0, 1), UNKNOWN);
        due.of("round and first in a closed face", x.wipe(0, 2, 1), UNKNOWN);
        due.of("target 6, to which there is no pointing", x.wipe(0, 0, 6), UNKNOWN);
        due.of("target below 0, in a round without pointings", x.wipe(0, 1, -1), UNKNOWN);
        due.of("first in the closed face, there in the open one", x.wipe(0, 0, 1), NOT_POSSIBLE);
        due.of("no pointing where a face is closed", x.wipe(0, 0, 5), NONE);
    }

    private static void centre() {
        due.in("promise 11, order");
        FaceRounds x = book();
        due.of("set-up and offset", x.centre(1, 100, 0), UNKNOWN);
        due.of("set-up and sector", x.centre(-1, 0, 24), UNKNOWN);
        due.of("sector, the offset so already", x.centre(0, 0, 24), BAD_VALUE);
        due.of("offset, the sector so already", x.centre(0, -1, 0), BAD_VALUE);
        // 1 times 100 less 100 is 0, as the offset 0 with the sector 0.
        due.of("sector -100", x.centre(0, 1, -100), BAD_VALUE);
    }

    private static void setDistance() {
        due.in("promise 12, order");
        FaceRounds x = book();
        due.of("target and distance", x.setDistance(6, 0), UNKNOWN);
        due.of("target and distance", x.setDistance(-1, 10000), UNKNOWN);
        due.of("target and the distance of all", x.setDistance(6, 100), UNKNOWN);
    }

    private static void pointing() {
        due.in("promise 18, order");
        FaceRounds x = book();
        due.of("set-up and face", x.pointing(1, 0, 2, 0, 0), UNKNOWN);
        due.of("set-up and place", x.pointing(-1, 0, 0, -1, 0), UNKNOWN);
        due.of("round and what", x.pointing(0, 2, 0, 0, 4), UNKNOWN);
        due.of("round and place that is not there", x.pointing(0, -1, 0, 9, 0), UNKNOWN);
        due.of("face and place that is not there", x.pointing(0, 0, 2, 9, 0), BAD_VALUE);
        due.of("what and place that is not there", x.pointing(0, 0, 0, 2, 4), BAD_VALUE);
        due.of("what below 0 in a face without pointings", x.pointing(0, 1, 0, 0, -1), BAD_VALUE);
    }

    private static void round() {
        due.in("promise 19, order");
        FaceRounds x = book();
        due.of("set-up and what", x.round(1, 0, 8), UNKNOWN);
        due.of("round and what", x.round(0, 2, -1), UNKNOWN);
        due.of("round without drift", x.round(0, 2, 2), UNKNOWN);
        due.of("what where there is no drift and no error", x.round(0, 1, 8), BAD_VALUE);
    }

    private static void reduced() {
        due.in("promise 20, order");
        FaceRounds x = book();
        due.of("set-up and what", x.reduced(1, 0, 0, 4), UNKNOWN);
        due.of("round and what", x.reduced(0, 2, 0, -1), UNKNOWN);
        due.of("target and what", x.reduced(0, 0, 6, 4), UNKNOWN);
        due.of("target, which is not used", x.reduced(0, 0, 6, 0), UNKNOWN);
        due.of("what of a target that is not used", x.reduced(0, 0, 5, 4), BAD_VALUE);
        due.of("what below 0 of a target that is not used", x.reduced(0, 0, 5, -1), BAD_VALUE);
    }

    private static void direction() {
        due.in("promise 21, order");
        FaceRounds x = book();
        due.of("set-up and what", x.direction(1, 0, 5), UNKNOWN);
        due.of("target and what", x.direction(0, 6, -1), UNKNOWN);
        due.of("target, which is not used", x.direction(0, -1, 0), UNKNOWN);
        due.of("what of a target that is not used", x.direction(0, 0, 5), BAD_VALUE);
        due.of("what below 0 of a target that is not used", x.direction(0, 0, -1), BAD_VALUE);
    }

    private static void angle() {
        due.in("promise 22, order");
        FaceRounds x = book();
        due.of("set-up and targets that are not used", x.angle(1, 0, 1, false), UNKNOWN);
        due.of("the one is not used, the other is none", x.angle(0, 0, 6, false), UNKNOWN);
        due.of("the one is none, the other is not used", x.angle(0, -1, 0, true), UNKNOWN);
        due.of("neither is used", x.angle(0, 0, 1, true), NONE);
    }

    private static void byAngles() {
        due.in("promise 23, order");
        FaceRounds x = book();
        due.of("set-up and a target that is not used", x.byAngles(1, 0), UNKNOWN);
        due.of("target, which is not used", x.byAngles(0, 6), UNKNOWN);
        due.of("not used", x.byAngles(0, 0), NONE);
    }
}
