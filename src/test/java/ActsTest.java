import java.util.Arrays;

/**
 * "Each call of a method that is described as an act, and returns no error and not NONE, records
 * the state that was before it": one state, and undo() brings all of it back. Two books are made
 * by the same calls; on one of them alone the act is made and undone.
 */
public final class ActsTest {
    private static final Due due = new Due();
    private static final String TEXT = "0l1:2:3;1l4:5:6";

    private interface Call {
        int on(FaceRounds x);
    }

    public static void main(String[] args) {
        acts();
        actsBySteps();
        callsThatAreNone();
        textIsNotPartOfAState();
        snapshotIsNotPartOfAState();
        due.end();
    }

    /** Two states are left in the history, so that none is dropped by the next act. */
    private static FaceRounds book() {
        FaceRounds x = Told.book(TEXT);
        x.undo();
        x.undo();
        return x;
    }

    private static void goBack(FaceRounds x, int way) {
        if (way == 4) {
            x.restore();
        }
        for (int i = 0; way < 4 && i < way; i++) {
            x.undo();
        }
    }

    private static void act(String call, int answer, Call made) {
        due.in(call);
        for (int way = 0; way <= 4; way++) {
            FaceRounds one = book();
            FaceRounds other = book();
            due.of("the act", made.on(one), answer);
            due.of("states", one.count(7), 3);
            due.of("undo()", one.undo(), 2);
            goBack(one, way);
            goBack(other, way);
            boolean same = Arrays.equals(Told.by(one), Told.by(other));
            due.of("all is as before, and behind the way " + way, same ? 1 : 0, 1);
        }
        FaceRounds one = book();
        made.on(one);
        due.of("the act changes something", Arrays.equals(Told.by(one), Told.by(book())) ? 0 : 1, 1);
    }

    private static void acts() {
        act("setUp()", 3, x -> x.setUp());
        act("begin", 1, x -> x.begin(1));
        act("point", 1, x -> x.point(1, 0, 0, 0, 5));
        act("pointAll", 2, x -> x.pointAll(1, 0));
        act("close", 5, x -> x.close(0, 1, 1, 648005));
        act("strike", 2, x -> x.strike(0, 1, 0, 0, true));
        act("strike, taken back", 0, x -> x.strike(0, 1, 2, 0, false));
        act("wipe", 2, x -> x.wipe(0, 1, 1));
        act("wipe of a struck one", 2, x -> x.wipe(0, 1, 2));
        act("clean", 1, x -> x.clean(0));
        act("setLimit", 20, x -> x.setLimit(9));
        act("centre", 0, x -> x.centre(1, 3, 4));
        act("centre, to nothing", 3006, x -> x.centre(0, 0, 0));
        act("setDistance", 40, x -> x.setDistance(2, 41));
        act("restore()", 3, x -> x.restore());
    }

    /** Four acts, undone one after the other: each step has a state of its own. */
    private static void actsBySteps() {
        due.in("four acts, step by step");
        Call[] calls = {x -> x.clean(0), x -> x.wipe(0, 1, 2), x -> x.restore(), x -> x.pointAll(1, 0)};
        for (int steps = 0; steps <= 4; steps++) {
            FaceRounds one = Told.book(TEXT);
            FaceRounds other = Told.book(TEXT);
            for (int i = 0; i < 4; i++) {
                due.of("act " + i, calls[i].on(one) < 0 ? 1 : 0, 0);
            }
            for (int i = 0; i < steps; i++) {
                calls[i].on(other);
            }
            for (int left = 3; left >= steps; left--) {
                due.of("undo()", one.undo(), left);
            }
            due.of("states before", one.count(7), steps);
            due.of("all is as behind " + steps + " acts", sameButHistory(one, other) ? 1 : 0, 1);
        }
    }

    /** How many states there are is told at the place 7: the other book has those before the steps, too. */
    private static boolean sameButHistory(FaceRounds one, FaceRounds other) {
        int[] byOne = Told.by(one);
        int[] byOther = Told.by(other);
        byOne[7] = 0;
        byOther[7] = 0;
        return Arrays.equals(byOne, byOther);
    }

    private static void callsThatAreNone() {
        due.in("calls that are no acts");
        Call[] calls = {
            x -> x.type('0'), x -> x.clearText(), x -> x.keep(), x -> x.pointing(0, 0, 0, 0, 3), x -> x.round(0, 0, 7),
            x -> x.reduced(0, 0, 1, 1), x -> x.direction(0, 1, 2), x -> x.angle(0, 1, 0, true), x -> x.byAngles(0, 1),
            x -> x.count(4), x -> x.centring(0, true)
        };
        for (int i = 0; i < calls.length; i++) {
            FaceRounds x = book();
            due.of("call " + i + " is answered", calls[i].on(x) < FaceRounds.UNKNOWN ? 1 : 0, 0);
            due.of("states behind call " + i, x.count(7), 2);
            due.of("undo() behind call " + i, x.undo(), 1);
            due.of("the strike is undone", x.count(3), 0);
        }
    }

    private static void textIsNotPartOfAState() {
        due.in("the text is not part of a state");
        FaceRounds x = Books.withRounds(1);
        x.type('0');
        x.keep();
        x.setLimit(30);
        x.type('l');
        x.setLimit(40);
        Books.typeAll(x, "1r1:1:1");
        due.of("undo()", x.undo(), 3);
        due.of("the text", x.count(8), 7);
        due.of("undo()", x.undo(), 2);
        due.of("the text", x.count(8), 7);
        due.of("restore()", x.restore(), 1);
        due.of("the text", x.count(8), 7);
        due.of("it is read", x.pointAll(0, 0), 1);
        due.of("undo()", x.undo(), 3);
        due.of("it is read once more", x.pointAll(0, 0), 1);
        x.clearText();
        due.of("undo()", x.undo(), 3);
        due.of("the text stays empty", x.count(8), 0);
    }

    private static void snapshotIsNotPartOfAState() {
        due.in("the snapshot is not part of a state");
        FaceRounds x = new FaceRounds();
        x.setLimit(30);
        x.setLimit(40);
        x.keep();
        due.of("undo()", x.undo(), 1);
        due.of("undo()", x.undo(), 0);
        due.of("restore()", x.restore(), 0);
        due.of("the limit of the snapshot", x.count(5), 40);
        x.setLimit(50);
        x.keep();
        due.of("undo()", x.undo(), 1);
        due.of("undo()", x.undo(), 0);
        due.of("the limit at first", x.count(5), 20);
        due.of("restore()", x.restore(), 0);
        due.of("the limit of the later snapshot", x.count(5), 50);
        x.restore();
        due.of("undo()", x.undo(), 1);
        due.of("undo()", x.undo(), 0);
        due.of("restore()", x.restore(), 0);
        due.of("it stays", x.count(5), 50);
    }
}
