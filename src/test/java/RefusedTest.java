import java.util.Arrays;

/**
 * "A call that returns an error or NONE changes nothing." Two books are made by the
 * same calls; the refused call is made on one of them alone. What both tell is the
 * same then: at once, behind one to five calls of undo(), and behind restore().
 */
public final class RefusedTest {
    private static final Due due = new Due();
    private static final int UNKNOWN = FaceRounds.UNKNOWN;
    private static final int BAD_VALUE = FaceRounds.BAD_VALUE;
    private static final int FULL = FaceRounds.FULL;
    private static final int NOT_POSSIBLE = FaceRounds.NOT_POSSIBLE;
    private static final int NONE = FaceRounds.NONE;
    private static final int FAULT_0 = -2000100;
    private static final String SIXTY = "0l1:20:30;1l1:20:30;2l1:20:30;3l1:20:30;4l1:20:30;5l10:20:30";

    private interface Call {
        int on(FaceRounds x);
    }

    public static void main(String[] args) {
        setUpAndBegin();
        point();
        pointAll();
        close();
        strike();
        wipe();
        clean();
        settings();
        type();
        undo();
        restore();
        askedWrongly();
        due.end();
    }

    private static void goBack(FaceRounds x, int way) {
        if (way == 6) {
            x.restore();
        }
        for (int i = 0; way < 6 && i < way; i++) {
            x.undo();
        }
    }

    private static void refused(String call, int error, Call made) {
        refused(call, "0l1:2:3;1l4:5:6", error, made);
    }

    private static void refused(String call, String text, int error, Call made) {
        for (int way = 0; way <= 6; way++) {
            FaceRounds one = Told.book(text);
            FaceRounds other = Told.book(text);
            due.of(call, made.on(one), error);
            goBack(one, way);
            goBack(other, way);
            boolean same = Arrays.equals(Told.by(one), Told.by(other));
            due.of(call + (way == 6 ? ", restored" : ", undone " + way), same ? 1 : 0, 1);
        }
    }

    private static void setUpAndBegin() {
        due.in("promises 2 and 3, refused");
        refused("setUp() where there are 4", FULL, x -> x.setUp());
        refused("begin, no such set-up", UNKNOWN, x -> x.begin(4));
        refused("begin where there are 6", FULL, x -> x.begin(0));
    }

    private static void point() {
        due.in("promise 4, refused");
        refused("no such set-up", UNKNOWN, x -> x.point(4, 0, 5, 0, 5));
        refused("no such round", UNKNOWN, x -> x.point(1, 1, 5, 0, 5));
        refused("no such target", UNKNOWN, x -> x.point(0, 1, 6, 0, 5));
        refused("face", BAD_VALUE, x -> x.point(0, 1, 5, 2, 5));
        refused("reading", BAD_VALUE, x -> x.point(0, 1, 5, 0, 1296000));
        refused("twice in a face", NOT_POSSIBLE, x -> x.point(0, 1, 0, 0, 5));
        refused("twice in a face, struck", NOT_POSSIBLE, x -> x.point(0, 1, 2, 0, 5));
        refused("closed face", NOT_POSSIBLE, x -> x.point(0, 0, 5, 0, 5));
    }

    private static void pointAll() {
        due.in("promise 5, refused");
        refused("no such set-up", UNKNOWN, x -> x.pointAll(4, 0));
        refused("no such round", UNKNOWN, x -> x.pointAll(1, 1));
        refused("the empty text", "", FAULT_0, x -> x.pointAll(1, 0));
        refused("a fault behind good ones", "0l1:2:3;1l4:5:6;", FAULT_0 - 16, x -> x.pointAll(1, 0));
        refused("a fault in the last one", "0l1:2:3;1l4:5:60", FAULT_0 - 15, x -> x.pointAll(1, 0));
        refused("the last one is there", "3l1:2:3;3r1:2:3;0r1:2:3", NOT_POSSIBLE, x -> x.pointAll(0, 1));
        refused("the first one is there", "0r1:2:3;3r1:2:3;5r1:2:3", NOT_POSSIBLE, x -> x.pointAll(0, 1));
        refused("the last one is twice", "3l1:2:3;3r1:2:3;3l1:2:3", NOT_POSSIBLE, x -> x.pointAll(1, 0));
        refused("the last one is in a closed face", "5r1:2:3;5l1:2:3", NOT_POSSIBLE, x -> x.pointAll(0, 0));
    }

    private static void close() {
        due.in("promise 6, refused");
        refused("no such set-up", UNKNOWN, x -> x.close(-1, 0, 1, 5));
        refused("no such round", UNKNOWN, x -> x.close(0, 6, 1, 5));
        refused("face", BAD_VALUE, x -> x.close(0, 0, -1, 5));
        refused("reading", BAD_VALUE, x -> x.close(0, 0, 1, -1));
        refused("closed", NOT_POSSIBLE, x -> x.close(0, 0, 0, 5));
        refused("no pointing", NOT_POSSIBLE, x -> x.close(1, 0, 0, 5));
    }

    private static void strike() {
        due.in("promise 7, refused");
        refused("no such set-up", UNKNOWN, x -> x.strike(4, 0, 0, 0, true));
        refused("no such round", UNKNOWN, x -> x.strike(1, 1, 0, 0, true));
        refused("face", BAD_VALUE, x -> x.strike(0, 1, 0, 2, true));
        refused("no such pointing", UNKNOWN, x -> x.strike(0, 1, 4, 0, true));
        refused("no such target", UNKNOWN, x -> x.strike(0, 1, 6, 0, true));
        refused("struck already", NONE, x -> x.strike(0, 1, 2, 0, true));
        refused("not struck already", NONE, x -> x.strike(0, 1, 2, 1, false));
    }

    private static void wipe() {
        due.in("promise 8, refused");
        refused("no such set-up", UNKNOWN, x -> x.wipe(4, 0, 0));
        refused("no such round", UNKNOWN, x -> x.wipe(0, -1, 0));
        refused("no such target", UNKNOWN, x -> x.wipe(0, 1, 6));
        refused("first in a closed face", NOT_POSSIBLE, x -> x.wipe(0, 0, 0));
        refused("no pointing", NONE, x -> x.wipe(0, 1, 5));
    }

    private static void clean() {
        due.in("promise 9, refused");
        refused("no such set-up", UNKNOWN, x -> x.clean(4));
        refused("none is bad", NONE, x -> x.clean(1));
    }

    private static void settings() {
        due.in("promises 10 to 12, refused");
        refused("limit 0", BAD_VALUE, x -> x.setLimit(0));
        refused("limit 601", BAD_VALUE, x -> x.setLimit(601));
        refused("limit so already", NONE, x -> x.setLimit(7));
        refused("centre, no such set-up", UNKNOWN, x -> x.centre(4, 1, 1));
        refused("offset", BAD_VALUE, x -> x.centre(0, 100, 1));
        refused("sector", BAD_VALUE, x -> x.centre(0, 1, 24));
        refused("centre so already", NONE, x -> x.centre(0, 30, 6));
        refused("distance, no such target", UNKNOWN, x -> x.setDistance(6, 1));
        refused("distance 0", BAD_VALUE, x -> x.setDistance(2, 0));
        refused("distance 10000", BAD_VALUE, x -> x.setDistance(2, 10000));
        refused("distance so already", NONE, x -> x.setDistance(2, 40));
    }

    private static void type() {
        due.in("promise 13, refused");
        refused("the 61st character", SIXTY, FULL, x -> x.type(';'));
    }

    private static void undo() {
        due.in("promise 15, refused");
        FaceRounds x = Books.withRounds(2);
        Books.typeAll(x, "0l1:2:3");
        x.keep();
        x.undo();
        x.undo();
        x.undo();
        for (int i = 0; i < 2; i++) {
            due.of("undo()", x.undo(), NONE);
            int[] counts = {0, 0, 0, 0, 0, 20, 0, 0, 7};
            for (int what = 0; what < counts.length; what++) {
                due.of("count(" + what + ")", x.count(what), counts[what]);
            }
        }
        due.of("the snapshot is as it was", x.restore(), 1);
        due.of("its rounds, too", x.count(1), 2);
        due.of("the text is as it was", x.pointAll(0, 0), 1);
    }

    private static void restore() {
        due.in("promise 17, refused");
        FaceRounds x = Books.withRounds(2);
        Books.typeAll(x, "0l1:2:3");
        for (int i = 0; i < 2; i++) {
            due.of("restore()", x.restore(), NONE);
            int[] counts = {1, 2, 0, 0, 0, 20, 0, 3, 7};
            for (int what = 0; what < counts.length; what++) {
                due.of("count(" + what + ")", x.count(what), counts[what]);
            }
        }
        due.of("the last act is begin(0)", x.undo(), 2);
        due.of("count(1)", x.count(1), 1);
    }

    private static void askedWrongly() {
        due.in("promises 18 to 25, refused");
        refused("pointing, no such set-up", UNKNOWN, x -> x.pointing(4, 0, 0, 0, 0));
        refused("pointing, face", BAD_VALUE, x -> x.pointing(0, 0, 2, 0, 0));
        refused("pointing, place", NONE, x -> x.pointing(0, 0, 0, 4, 0));
        refused("round, no such round", UNKNOWN, x -> x.round(1, 1, 0));
        refused("round, what", BAD_VALUE, x -> x.round(0, 0, 8));
        refused("round, no drift", NONE, x -> x.round(0, 0, 3));
        refused("reduced, no such target", UNKNOWN, x -> x.reduced(0, 0, 6, 0));
        refused("reduced, what", BAD_VALUE, x -> x.reduced(0, 0, 0, 4));
        refused("reduced, not used", NONE, x -> x.reduced(0, 0, 3, 0));
        refused("direction, no such set-up", UNKNOWN, x -> x.direction(4, 0, 0));
        refused("direction, what", BAD_VALUE, x -> x.direction(0, 0, 5));
        refused("direction, not used", NONE, x -> x.direction(0, 3, 0));
        refused("angle, no such target", UNKNOWN, x -> x.angle(0, 0, 6, true));
        refused("angle, not used", NONE, x -> x.angle(0, 0, 3, true));
        refused("byAngles, no such set-up", UNKNOWN, x -> x.byAngles(-1, 0));
        refused("byAngles, not used", NONE, x -> x.byAngles(0, 3));
        refused("count", BAD_VALUE, x -> x.count(9));
        refused("centring", UNKNOWN, x -> x.centring(4, true));
    }
}
