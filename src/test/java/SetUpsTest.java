/** Promises 1 to 3: a new object, setUp, begin. */
public final class SetUpsTest {
    private static final Due due = new Due();

    public static void main(String[] args) {
        newObject();
        objectsAreApart();
        setUp();
        begin();
        due.end();
    }

    private static void newObject() {
        due.in("promise 1");
        FaceRounds x = new FaceRounds();
        int[] counts = {0, 0, 0, 0, 0, 20, 0, 0, 0};
        for (int what = 0; what < counts.length; what++) {
            due.of("count(" + what + ")", x.count(what), counts[what]);
        }
        due.of("begin(0)", x.begin(0), FaceRounds.UNKNOWN);
        due.of("centring(0, false)", x.centring(0, false), FaceRounds.UNKNOWN);
        due.of("clean(0)", x.clean(0), FaceRounds.UNKNOWN);
        due.of("undo()", x.undo(), FaceRounds.NONE);
        due.of("restore()", x.restore(), FaceRounds.NONE);
        due.of("clearText()", x.clearText(), 0);
        due.of("setLimit(20)", x.setLimit(20), FaceRounds.NONE);
        for (int target = 0; target < 6; target++) {
            due.of("setDistance(.., 100)", x.setDistance(target, 100), FaceRounds.NONE);
        }
    }

    private static void objectsAreApart() {
        due.in("promise 1, two objects");
        FaceRounds one = new FaceRounds();
        one.setUp();
        one.type('0');
        one.keep();
        FaceRounds other = new FaceRounds();
        due.of("count(0)", other.count(0), 0);
        due.of("count(7)", other.count(7), 0);
        due.of("count(8)", other.count(8), 0);
        due.of("restore()", other.restore(), FaceRounds.NONE);
        due.of("count(0) of the first one", one.count(0), 1);
    }

    private static void setUp() {
        due.in("promise 2");
        FaceRounds x = new FaceRounds();
        for (int number = 0; number < 4; number++) {
            due.of("setUp()", x.setUp(), number);
            due.of("count(0)", x.count(0), number + 1);
            due.of("count(7)", x.count(7), number + 1);
            due.of("round(.., 0, 0)", x.round(number, 0, 0), FaceRounds.UNKNOWN);
            due.of("centring(.., false)", x.centring(number, false), 0);
            due.of("centring(.., true)", x.centring(number, true), 0);
        }
        due.of("setUp()", x.setUp(), FaceRounds.FULL);
        due.of("count(0)", x.count(0), 4);
        due.of("undo()", x.undo(), 3);
        due.of("count(0)", x.count(0), 3);
        due.of("setUp()", x.setUp(), 3);
    }

    private static void begin() {
        due.in("promise 3");
        FaceRounds x = new FaceRounds();
        x.setUp();
        x.setUp();
        due.of("begin(-1)", x.begin(-1), FaceRounds.UNKNOWN);
        due.of("begin(2)", x.begin(2), FaceRounds.UNKNOWN);
        due.of("begin(max)", x.begin(Integer.MAX_VALUE), FaceRounds.UNKNOWN);
        due.of("begin(min)", x.begin(Integer.MIN_VALUE), FaceRounds.UNKNOWN);
        due.of("count(7)", x.count(7), 2);
        for (int number = 0; number < 6; number++) {
            due.of("round before it", x.round(1, number, 0), FaceRounds.UNKNOWN);
            due.of("begin(1)", x.begin(1), number);
            for (int what = 0; what < 8; what++) {
                boolean none = what == 2 || what == 3 || what == 6;
                due.of("round(1, .., " + what + ")", x.round(1, number, what), none ? FaceRounds.NONE : 0);
            }
        }
        due.of("count(7)", x.count(7), 4);
        due.of("begin(1)", x.begin(1), FaceRounds.FULL);
        due.of("count(1)", x.count(1), 6);
        due.of("begin(0)", x.begin(0), 0);
        due.of("count(1)", x.count(1), 7);
        due.of("undo()", x.undo(), 3);
        due.of("count(1)", x.count(1), 6);
        due.of("undo()", x.undo(), 2);
        due.of("round(1, 5, 0)", x.round(1, 5, 0), FaceRounds.UNKNOWN);
        due.of("begin(1)", x.begin(1), 5);
    }
}
