import java.util.ArrayList;
import java.util.Comparator;
import java.util.List;
import java.util.regex.Matcher;
import java.util.regex.Pattern;

/**
 * The document once more, as plainly as it can be said: whole copies of the
 * book, nothing kept that can be reckoned. ModelTest compares FaceRounds with it.
 */
final class PlainRounds {
    private static final int UNKNOWN = -2000001;
    private static final int BAD_VALUE = -2000002;
    private static final int FULL = -2000003;
    private static final int NOT_POSSIBLE = -2000004;
    private static final int NONE = -2000005;
    private static final String NUMBER_59 = "(0|[1-5][0-9]|[1-9])";
    private static final String ONE = "[0-5][lr](0|[12][0-9][0-9]|3[0-5][0-9]|[1-9][0-9]|[1-9]):"
        + NUMBER_59 + ":" + NUMBER_59;
    private static final Pattern TEXT = Pattern.compile(ONE + "(;" + ONE + ")*");

    private static final class Pointing {
        int target;
        long reading;
        boolean struck;

        Pointing(int target, long reading, boolean struck) {
            this.target = target;
            this.reading = reading;
            this.struck = struck;
        }
    }

    private static final class Face {
        final List<Pointing> pointings = new ArrayList<>();
        Long closing = null;

        Pointing to(int target) {
            for (Pointing one : pointings) {
                if (one.target == target) {
                    return one;
                }
            }
            return null;
        }

        long drift() {
            return near(closing - pointings.get(0).reading);
        }

        long corrected(int k) {
            long reading = pointings.get(k).reading;
            return closing == null ? reading : reading - down(drift() * k, pointings.size());
        }

        boolean takes(int target) {
            return closing == null && to(target) == null;
        }
    }

    private static final class Round {
        final Face[] faces = {new Face(), new Face()};

        int why(int target) {
            Pointing in0 = faces[0].to(target);
            Pointing in1 = faces[1].to(target);
            if (in0 == null) {
                return 1;
            }
            if (in1 == null) {
                return 2;
            }
            if (in0.struck || in1.struck) {
                return 3;
            }
            return target != 0 && why(0) != 0 ? 4 : 0;
        }

        boolean uses(int target) {
            return why(target) == 0;
        }

        long f0(int target) {
            return faces[0].corrected(faces[0].pointings.indexOf(faces[0].to(target)));
        }

        long d(int target) {
            long f1 = faces[1].corrected(faces[1].pointings.indexOf(faces[1].to(target)));
            return near(f1 - 648000 - f0(target));
        }

        long mean(int target) {
            return f0(target) + down(d(target), 2);
        }

        long reduced(int target) {
            return turn(mean(target) - mean(0));
        }

        int struck() {
            int all = 0;
            for (Face face : faces) {
                for (Pointing one : face.pointings) {
                    all += one.struck ? 1 : 0;
                }
            }
            return all;
        }
    }

    private static final class SetUp {
        final List<Round> rounds = new ArrayList<>();
        int offset = 0;
        int sector = 0;

        List<Round> using(int target) {
            List<Round> all = new ArrayList<>();
            for (Round one : rounds) {
                if (one.uses(target)) {
                    all.add(one);
                }
            }
            return all;
        }

        boolean knows(int target) {
            return !using(target).isEmpty();
        }

        long direction(int target) {
            List<Round> used = using(target);
            long first = used.get(0).reduced(target);
            long sum = 0;
            for (Round one : used) {
                sum += near(one.reduced(target) - first);
            }
            return turn(first + down(sum, used.size()));
        }

        long left(Round round, int target) {
            return near(round.reduced(target) - direction(target));
        }

        boolean bad(Round round, int target, int limit) {
            return round.uses(target) && Math.abs(left(round, target)) > limit;
        }
    }

    private static final class Book {
        final List<SetUp> setUps = new ArrayList<>();
        int limit = 20;
        int[] distances = {100, 100, 100, 100, 100, 100};

        Book copy() {
            Book other = new Book();
            other.limit = limit;
            other.distances = distances.clone();
            for (SetUp setUp : setUps) {
                SetUp copy = new SetUp();
                copy.offset = setUp.offset;
                copy.sector = setUp.sector;
                for (Round round : setUp.rounds) {
                    copy.rounds.add(copyOf(round));
                }
                other.setUps.add(copy);
            }
            return other;
        }

        private static Round copyOf(Round round) {
            Round copy = new Round();
            for (int face = 0; face < 2; face++) {
                copy.faces[face].closing = round.faces[face].closing;
                for (Pointing one : round.faces[face].pointings) {
                    copy.faces[face].pointings.add(new Pointing(one.target, one.reading, one.struck));
                }
            }
            return copy;
        }
    }

    private Book book = new Book();
    private Book snapshot = null;
    private final List<Book> history = new ArrayList<>();
    private String text = "";

    private static long down(long a, long b) {
        long cut = a / b;
        return a % b != 0 && (a < 0) != (b < 0) ? cut - 1 : cut;
    }

    private static long near(long angle) {
        long near = angle;
        while (near <= -648000) {
            near += 1296000;
        }
        while (near > 648000) {
            near -= 1296000;
        }
        return near;
    }

    private static long turn(long angle) {
        long turned = angle;
        while (turned < 0) {
            turned += 1296000;
        }
        while (turned > 1295999) {
            turned -= 1296000;
        }
        return turned;
    }

    private static boolean within(int number, int least, int most) {
        return number >= least && number <= most;
    }

    private boolean isSetUp(int setUp) {
        return within(setUp, 0, book.setUps.size() - 1);
    }

    private boolean isRound(int setUp, int round) {
        return isSetUp(setUp) && within(round, 0, book.setUps.get(setUp).rounds.size() - 1);
    }

    private Round at(int setUp, int round) {
        return book.setUps.get(setUp).rounds.get(round);
    }

    private void record() {
        history.add(book.copy());
        if (history.size() > 4) {
            history.remove(0);
        }
    }

    int setUp() {
        if (book.setUps.size() == 4) {
            return FULL;
        }
        record();
        book.setUps.add(new SetUp());
        return book.setUps.size() - 1;
    }

    int begin(int setUp) {
        if (!isSetUp(setUp)) {
            return UNKNOWN;
        }
        if (book.setUps.get(setUp).rounds.size() == 6) {
            return FULL;
        }
        record();
        book.setUps.get(setUp).rounds.add(new Round());
        return book.setUps.get(setUp).rounds.size() - 1;
    }

    int point(int setUp, int round, int target, int face, int reading) {
        if (!isRound(setUp, round) || !within(target, 0, 5)) {
            return UNKNOWN;
        }
        if (!within(face, 0, 1) || !within(reading, 0, 1295999)) {
            return BAD_VALUE;
        }
        if (!at(setUp, round).faces[face].takes(target)) {
            return NOT_POSSIBLE;
        }
        record();
        List<Pointing> pointings = at(setUp, round).faces[face].pointings;
        pointings.add(new Pointing(target, reading, false));
        return pointings.size();
    }

    private int fault() {
        for (int length = 1; length <= text.length(); length++) {
            Matcher matcher = TEXT.matcher(text.substring(0, length));
            if (!matcher.matches() && !matcher.hitEnd()) {
                return length - 1;
            }
        }
        return TEXT.matcher(text).matches() ? -1 : text.length();
    }

    int pointAll(int setUp, int round) {
        if (!isRound(setUp, round)) {
            return UNKNOWN;
        }
        int fault = fault();
        if (fault >= 0) {
            return -2000100 - fault;
        }
        Book before = book.copy();
        String[] parts = text.split(";");
        for (String part : parts) {
            Face face = at(setUp, round).faces[part.charAt(1) == 'l' ? 0 : 1];
            int target = part.charAt(0) - '0';
            if (!face.takes(target)) {
                book = before;
                return NOT_POSSIBLE;
            }
            String[] numbers = part.substring(2).split(":");
            long reading = 3600L * Integer.parseInt(numbers[0]) + 60L * Integer.parseInt(numbers[1])
                + Integer.parseInt(numbers[2]);
            face.pointings.add(new Pointing(target, reading, false));
        }
        Book after = book;
        book = before;
        record();
        book = after;
        return parts.length;
    }

    int close(int setUp, int round, int face, int reading) {
        if (!isRound(setUp, round)) {
            return UNKNOWN;
        }
        if (!within(face, 0, 1) || !within(reading, 0, 1295999)) {
            return BAD_VALUE;
        }
        Face one = at(setUp, round).faces[face];
        if (one.closing != null || one.pointings.isEmpty()) {
            return NOT_POSSIBLE;
        }
        record();
        one.closing = (long) reading;
        return (int) one.drift();
    }

    int strike(int setUp, int round, int target, int face, boolean struck) {
        if (!isRound(setUp, round)) {
            return UNKNOWN;
        }
        if (!within(face, 0, 1)) {
            return BAD_VALUE;
        }
        Pointing one = at(setUp, round).faces[face].to(target);
        if (one == null) {
            return UNKNOWN;
        }
        if (one.struck == struck) {
            return NONE;
        }
        record();
        one.struck = struck;
        return at(setUp, round).struck();
    }

    int wipe(int setUp, int round, int target) {
        if (!isRound(setUp, round) || !within(target, 0, 5)) {
            return UNKNOWN;
        }
        int all = 0;
        for (Face face : at(setUp, round).faces) {
            Pointing one = face.to(target);
            if (one != null && face.closing != null && face.pointings.indexOf(one) == 0) {
                return NOT_POSSIBLE;
            }
            all += one == null ? 0 : 1;
        }
        if (all == 0) {
            return NONE;
        }
        record();
        for (Face face : at(setUp, round).faces) {
            face.pointings.remove(face.to(target));
        }
        return all;
    }

    int clean(int setUp) {
        if (!isSetUp(setUp)) {
            return UNKNOWN;
        }
        Book before = book.copy();
        SetUp here = book.setUps.get(setUp);
        int all = 0;
        while (true) {
            Round worstRound = null;
            int worstTarget = 0;
            long most = -1;
            for (Round round : here.rounds) {
                for (int target = 0; target < 6; target++) {
                    if (here.bad(round, target, book.limit) && Math.abs(here.left(round, target)) > most) {
                        most = Math.abs(here.left(round, target));
                        worstRound = round;
                        worstTarget = target;
                    }
                }
            }
            if (worstRound == null) {
                break;
            }
            worstRound.faces[0].to(worstTarget).struck = true;
            worstRound.faces[1].to(worstTarget).struck = true;
            all++;
        }
        if (all == 0) {
            return NONE;
        }
        Book after = book;
        book = before;
        record();
        book = after;
        return all;
    }

    int setLimit(int limit) {
        if (!within(limit, 1, 600)) {
            return BAD_VALUE;
        }
        int before = book.limit;
        if (before == limit) {
            return NONE;
        }
        record();
        book.limit = limit;
        return before;
    }

    int centre(int setUp, int offset, int sector) {
        if (!isSetUp(setUp)) {
            return UNKNOWN;
        }
        if (!within(offset, 0, 99) || !within(sector, 0, 23)) {
            return BAD_VALUE;
        }
        SetUp here = book.setUps.get(setUp);
        int before = here.offset * 100 + here.sector;
        if (before == offset * 100 + sector) {
            return NONE;
        }
        record();
        here.offset = offset;
        here.sector = sector;
        return before;
    }

    int setDistance(int target, int distance) {
        if (!within(target, 0, 5)) {
            return UNKNOWN;
        }
        if (!within(distance, 1, 9999)) {
            return BAD_VALUE;
        }
        int before = book.distances[target];
        if (before == distance) {
            return NONE;
        }
        record();
        book.distances[target] = distance;
        return before;
    }

    int type(char character) {
        if (text.length() == 60) {
            return FULL;
        }
        text += character;
        return text.length();
    }

    int clearText() {
        int before = text.length();
        text = "";
        return before;
    }

    int undo() {
        if (history.isEmpty()) {
            return NONE;
        }
        book = history.remove(history.size() - 1);
        return history.size();
    }

    int keep() {
        snapshot = book.copy();
        return book.setUps.size();
    }

    int restore() {
        if (snapshot == null) {
            return NONE;
        }
        record();
        book = snapshot.copy();
        return book.setUps.size();
    }

    int pointing(int setUp, int round, int face, int place, int what) {
        if (!isRound(setUp, round)) {
            return UNKNOWN;
        }
        if (!within(face, 0, 1) || place < 0 || !within(what, 0, 3)) {
            return BAD_VALUE;
        }
        Face here = at(setUp, round).faces[face];
        if (place >= here.pointings.size()) {
            return NONE;
        }
        Pointing one = here.pointings.get(place);
        long[] answers = {one.target, one.reading, one.struck ? 1 : 0, here.corrected(place)};
        return (int) answers[what];
    }

    int round(int setUp, int round, int what) {
        if (!isRound(setUp, round)) {
            return UNKNOWN;
        }
        if (!within(what, 0, 7)) {
            return BAD_VALUE;
        }
        SetUp setUpHere = book.setUps.get(setUp);
        Round here = at(setUp, round);
        int used = 0;
        int bad = 0;
        int all = 0;
        long errors = 0;
        for (int target = 0; target < 6; target++) {
            if (here.uses(target)) {
                used += 1 << target;
                all++;
                errors += down(-here.d(target), 2);
                bad += setUpHere.bad(here, target, book.limit) ? 1 << target : 0;
            }
        }
        switch (what) {
            case 0: case 1:
                return here.faces[what].pointings.size();
            case 2: case 3:
                return here.faces[what - 2].closing == null ? NONE : (int) here.faces[what - 2].drift();
            case 4:
                return used;
            case 5:
                return here.struck();
            case 6:
                return all == 0 ? NONE : (int) down(errors, all);
            default:
                return bad;
        }
    }

    int reduced(int setUp, int round, int target, int what) {
        if (!isRound(setUp, round) || !within(target, 0, 5)) {
            return UNKNOWN;
        }
        if (!within(what, 0, 3)) {
            return BAD_VALUE;
        }
        Round here = at(setUp, round);
        if (what == 3) {
            return here.why(target);
        }
        if (!here.uses(target)) {
            return NONE;
        }
        long[] answers = {
            here.reduced(target), book.setUps.get(setUp).left(here, target), down(-here.d(target), 2)
        };
        return (int) answers[what];
    }

    private long correction(int setUp, int target) {
        SetUp here = book.setUps.get(setUp);
        long sector = turn(here.sector * 54000L - here.direction(target) + 27000) / 54000;
        long inHalf = sector > 12 ? sector - 12 : sector;
        int[] sines = {0, 259, 500, 707, 866, 966, 1000};
        long sine = sines[(int) (inHalf > 6 ? 12 - inHalf : inHalf)];
        // Cut without the sign, so that it is toward 0.
        long cut = here.offset * sine * 206265 / (book.distances[target] * 1000000L);
        return sector > 12 ? -cut : cut;
    }

    private long directionOf(int setUp, int target, boolean centred) {
        long plain = book.setUps.get(setUp).direction(target);
        return centred ? turn(plain + correction(setUp, target) - correction(setUp, 0)) : plain;
    }

    int direction(int setUp, int target, int what) {
        if (!isSetUp(setUp) || !within(target, 0, 5)) {
            return UNKNOWN;
        }
        if (!within(what, 0, 4)) {
            return BAD_VALUE;
        }
        SetUp here = book.setUps.get(setUp);
        int set = 0;
        long most = 0;
        for (int round = 0; round < here.rounds.size(); round++) {
            if (here.rounds.get(round).uses(target)) {
                set += 1 << round;
                most = Math.max(most, Math.abs(here.left(here.rounds.get(round), target)));
            }
        }
        if (what == 4) {
            return set;
        }
        if (set == 0) {
            return NONE;
        }
        long[] answers = {
            directionOf(setUp, target, false), correction(setUp, target), directionOf(setUp, target, true), most
        };
        return (int) answers[what];
    }

    int angle(int setUp, int one, int other, boolean centred) {
        if (!isSetUp(setUp) || !within(one, 0, 5) || !within(other, 0, 5)) {
            return UNKNOWN;
        }
        if (!book.setUps.get(setUp).knows(one) || !book.setUps.get(setUp).knows(other)) {
            return NONE;
        }
        return (int) turn(directionOf(setUp, other, centred) - directionOf(setUp, one, centred));
    }

    int byAngles(int setUp, int target) {
        if (!isSetUp(setUp) || !within(target, 0, 5)) {
            return UNKNOWN;
        }
        SetUp here = book.setUps.get(setUp);
        if (!here.knows(target)) {
            return NONE;
        }
        List<Integer> known = new ArrayList<>();
        for (int other = 0; other < 6; other++) {
            if (here.knows(other)) {
                known.add(other);
            }
        }
        known.sort(Comparator.comparingLong((Integer other) -> here.direction(other)));
        int sum = 0;
        for (int i = 0; known.get(i) != target; i++) {
            sum += angle(setUp, known.get(i), known.get(i + 1), false);
        }
        return sum;
    }

    int count(int what) {
        int[] counts = {
            book.setUps.size(), 0, 0, 0, 0, book.limit, 0, history.size(), text.length()
        };
        if (!within(what, 0, 8)) {
            return BAD_VALUE;
        }
        for (SetUp setUp : book.setUps) {
            for (Round round : setUp.rounds) {
                counts[1]++;
                counts[2] += round.faces[0].pointings.size() + round.faces[1].pointings.size();
                counts[3] += round.struck();
                for (int target = 0; target < 6; target++) {
                    counts[4] += setUp.bad(round, target, book.limit) ? 1 : 0;
                }
                counts[6] += round.faces[0].closing != null ? 1 : 0;
                counts[6] += round.faces[1].closing != null ? 1 : 0;
            }
        }
        return counts[what];
    }

    int centring(int setUp, boolean sector) {
        if (!isSetUp(setUp)) {
            return UNKNOWN;
        }
        return sector ? book.setUps.get(setUp).sector : book.setUps.get(setUp).offset;
    }
}
