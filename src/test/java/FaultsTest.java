/**
 * Texts of pointings: at each place every sign from 0 to 300, and some far ones, is taken or is
 * the fault; all numbers up to the greatest ones are read; a text that ends too early has its
 * length as the fault.
 */
public final class FaultsTest {
    private static final Due due = new Due();
    private static final int FAULT_0 = -2000100;
    private static final String DIGITS = "0123456789";
    private static final String WHOLE = "5r359:59:59;0l0:0:0;1r10:2:30;3l7:58:9";

    public static void main(String[] args) {
        target();
        face();
        degrees();
        minutes();
        seconds();
        behindAPointing();
        inTheLastPlaces();
        allDegrees();
        allMinutesAndSeconds();
        allTargetsAndFaces();
        zerosInFront();
        endsTooEarly();
        theFirstFaultIsTold();
        theEmptyText();
        due.end();
    }

    private static int answer(String text) {
        FaceRounds x = Books.withRounds(1);
        Books.typeAll(x, text);
        return x.pointAll(0, 0);
    }

    /** Behind the sign comes one that is never allowed: it is the fault, if the sign itself is not. */
    private static void allowed(String before, String signs) {
        due.in("behind '" + before + "'");
        for (int number = 0; number <= 300; number++) {
            sign(before, (char) number, signs);
        }
        int[] far = {0x660, 0xff10, 0xff1a, 0x130, 0x16c, 0x172, 0x13a, 0x13b, 0xffff, 0x8030};
        for (int number : far) {
            sign(before, (char) number, signs);
        }
    }

    private static void sign(String before, char sign, String signs) {
        int fault = before.length() + (signs.indexOf(sign) >= 0 ? 1 : 0);
        due.of("sign " + (int) sign, answer(before + sign + '~'), FAULT_0 - fault);
    }

    private static void target() {
        allowed("", "012345");
    }

    private static void face() {
        allowed("0", "lr");
        allowed("5", "lr");
    }

    private static void degrees() {
        allowed("0l", DIGITS);
        allowed("0l0", ":");
        allowed("0l1", ":" + DIGITS);
        allowed("0l3", ":" + DIGITS);
        allowed("0l9", ":" + DIGITS);
        allowed("0l10", ":" + DIGITS);
        allowed("0l34", ":" + DIGITS);
        allowed("0l35", ":" + DIGITS);
        allowed("0l36", ":");
        allowed("0l40", ":");
        allowed("0l99", ":");
        allowed("0l100", ":");
        allowed("0l359", ":");
    }

    private static void minutes() {
        allowed("2r359:", DIGITS);
        allowed("2r359:0", ":");
        allowed("2r359:1", ":" + DIGITS);
        allowed("2r359:5", ":" + DIGITS);
        allowed("2r359:6", ":");
        allowed("2r359:9", ":");
        allowed("2r359:10", ":");
        allowed("2r359:59", ":");
    }

    private static void seconds() {
        allowed("2r0:59:", DIGITS);
        allowed("2r0:59:0", ";");
        allowed("2r0:59:1", ";" + DIGITS);
        allowed("2r0:59:5", ";" + DIGITS);
        allowed("2r0:59:6", ";");
        allowed("2r0:59:9", ";");
        allowed("2r0:59:10", ";");
        allowed("2r0:59:59", ";");
    }

    private static void behindAPointing() {
        allowed("2r0:59:0;", "012345");
        allowed("2r0:59:0;3", "lr");
        allowed("2r0:59:0;3l", DIGITS);
        allowed("2r0:59:0;3l35", ":" + DIGITS);
        allowed("2r0:59:0;3l36", ":");
        allowed("2r0:59:0;3l0:59", ":");
        allowed("2r0:59:0;3l0:0:5", ";" + DIGITS);
        allowed("2r0:59:0;3l0:0:6", ";");
    }

    /** Up to the 60th character, where no whole pointing may follow any more. */
    private static void inTheLastPlaces() {
        String seven = "0l0:0:0;1l0:0:1;2l0:0:2;3l0:0:3;4l0:0:4;5l0:0:5;0r0:0:6";
        allowed(seven, ";");
        allowed(seven + ";", "012345");
        allowed(seven + ";1", "lr");
        due.in("at the 60th character");
        due.of("a digit that is allowed", answer(seven + ";1r35"), FAULT_0 - 60);
        due.of("a sign that is allowed", answer(seven + ";1r3:"), FAULT_0 - 60);
        due.of("a sign that is not", answer(seven + ";1r3;"), FAULT_0 - 59);
        due.of("without it", answer(seven + ";1r3"), FAULT_0 - 59);
        due.of("a digit that is not", answer(seven + ";1r03"), FAULT_0 - 59);
        String six = "0l1:20:30;1l1:20:30;2l1:20:30;3l1:20:30;4l1:20:30;5l10:20:";
        due.of("6 and 0", answer(six + "60"), FAULT_0 - 59);
        due.of("5 and 9", answer(six + "59"), 6);
        due.of("5", answer(six + "5"), 6);
        due.of("5 and ;", answer(six + "5;"), FAULT_0 - 60);
    }

    private static void read(String text, int reading) {
        FaceRounds x = Books.withRounds(1);
        Books.typeAll(x, "4r" + text);
        due.of("pointAll of " + text, x.pointAll(0, 0), 1);
        due.of("reading of " + text, x.pointing(0, 0, 1, 0, 1), reading);
    }

    private static void allDegrees() {
        due.in("degrees");
        for (int degrees = 0; degrees < 360; degrees++) {
            read(degrees + ":0:0", degrees * 3600);
            read(degrees + ":59:59", degrees * 3600 + 3599);
        }
        for (int degrees = 360; degrees < 1000; degrees++) {
            due.of("degrees " + degrees, answer("4r" + degrees + ":0:0"), FAULT_0 - 4);
        }
        for (int degrees = 1000; degrees < 3600; degrees += 7) {
            due.of("degrees " + degrees, answer("4r" + degrees + ":0:0"), FAULT_0 - 5);
        }
    }

    private static void allMinutesAndSeconds() {
        due.in("minutes and seconds");
        for (int number = 0; number < 60; number++) {
            read("1:" + number + ":1", 3601 + number * 60);
            read("1:1:" + number, 3660 + number);
        }
        for (int number = 60; number < 100; number++) {
            due.of("minutes " + number, answer("4r1:" + number + ":1"), FAULT_0 - 5);
            due.of("seconds " + number, answer("4r1:1:" + number), FAULT_0 - 7);
        }
        for (int number = 100; number < 600; number += 7) {
            int digits = number / 10 < 60 ? 2 : 1;
            due.of("minutes " + number, answer("4r1:" + number + ":1"), FAULT_0 - 4 - digits);
            due.of("seconds " + number, answer("4r1:1:" + number), FAULT_0 - 6 - digits);
        }
    }

    private static void allTargetsAndFaces() {
        due.in("targets and faces");
        for (int target = 0; target < 10; target++) {
            for (int face = 0; face < 2; face++) {
                FaceRounds x = Books.withRounds(1);
                Books.typeAll(x, "" + target + "lr".charAt(face) + "1:2:3");
                due.of("target " + target, x.pointAll(0, 0), target < 6 ? 1 : FAULT_0);
                due.of("its face", x.round(0, 0, face), target < 6 ? 1 : 0);
                due.of("the other face", x.round(0, 0, 1 - face), 0);
                int told = x.pointing(0, 0, face, 0, 0);
                due.of("told", told, target < 6 ? target : FaceRounds.NONE);
            }
        }
    }

    private static void zerosInFront() {
        due.in("zeros in front");
        due.of("00 degrees", answer("0l00:0:0"), FAULT_0 - 3);
        due.of("01 degrees", answer("0l01:0:0"), FAULT_0 - 3);
        due.of("010 degrees", answer("0l010:0:0"), FAULT_0 - 3);
        due.of("00 minutes", answer("0l0:00:0"), FAULT_0 - 5);
        due.of("05 minutes", answer("0l0:05:0"), FAULT_0 - 5);
        due.of("00 seconds", answer("0l0:0:00"), FAULT_0 - 7);
        due.of("09 seconds", answer("0l0:0:09"), FAULT_0 - 7);
        due.of("00 as the target", answer("00l0:0:0"), FAULT_0 - 1);
        due.of("single zeros", answer("0l0:0:0"), 1);
        due.of("zeros behind", answer("0l100:10:50"), 1);
    }

    /** The end of the text behind each number of its characters. */
    private static void endsTooEarly() {
        due.in("ends too early");
        for (int length = 0; length <= WHOLE.length(); length++) {
            String text = WHOLE.substring(0, length);
            // It may end behind any digit of the seconds.
            int pointings = wholePointings(text);
            due.of("'" + text + "'", answer(text), pointings > 0 ? pointings : FAULT_0 - length);
        }
    }

    private static int wholePointings(String text) {
        String[] ends = {"5r359:59:5", "5r359:59:59", "0l0:0:0", "1r10:2:3", "1r10:2:30", "3l7:58:9"};
        String last = text.substring(text.lastIndexOf(';') + 1);
        for (String end : ends) {
            if (last.equals(end)) {
                return text.split(";").length;
            }
        }
        return 0;
    }

    /** A wrong sign at each place: what stands behind it is not looked at. */
    private static void theFirstFaultIsTold() {
        due.in("the first fault");
        for (int place = 0; place < WHOLE.length(); place++) {
            StringBuilder text = new StringBuilder(WHOLE);
            text.setCharAt(place, '~');
            due.of("at " + place, answer(text.toString()), FAULT_0 - place);
            text.setCharAt(WHOLE.length() - 1, '~');
            due.of("at " + place + ", and at the end", answer(text.toString()), FAULT_0 - place);
            text.setLength(place + 1);
            due.of("at " + place + ", which is the end", answer(text.toString()), FAULT_0 - place);
        }
    }

    private static void theEmptyText() {
        due.in("the empty text");
        FaceRounds x = Books.withRounds(1);
        due.of("at first", x.pointAll(0, 0), FAULT_0);
        Books.typeAll(x, "0l1:2:3");
        x.clearText();
        due.of("when it is emptied", x.pointAll(0, 0), FAULT_0);
        due.of("no pointing", x.count(2), 0);
        due.of("one of two is never empty", answer(";0l1:2:3"), FAULT_0);
        due.of("nor the last one", answer("0l1:2:3;"), FAULT_0 - 8);
        due.of("nor the one between", answer("0l1:2:3;;1l1:2:3"), FAULT_0 - 8);
    }
}
