/** Promises 5, 13 and 14: pointAll, type, clearText. */
public final class TextsTest {
    private static final Due due = new Due();

    public static void main(String[] args) {
        typed();
        pointAll();
        longTexts();
        faults();
        notPossible();
        unknown();
        due.end();
    }

    private static void typed() {
        due.in("promises 13 and 14");
        FaceRounds x = new FaceRounds();
        for (int length = 1; length <= 60; length++) {
            due.of("type", x.type((char) (length * 1090)), length);
        }
        due.of("count(8)", x.count(8), 60);
        due.of("type", x.type('0'), FaceRounds.FULL);
        due.of("count(8)", x.count(8), 60);
        due.of("count(7)", x.count(7), 0);
        due.of("clearText()", x.clearText(), 60);
        due.of("clearText()", x.clearText(), 0);
        due.of("count(8)", x.count(8), 0);
        due.of("type", x.type((char) 0), 1);
        due.of("type", x.type((char) 65535), 2);
        due.of("clearText()", x.clearText(), 2);
        due.of("count(7)", x.count(7), 0);
        due.of("undo()", x.undo(), FaceRounds.NONE);
    }

    private static void pointAll() {
        due.in("promise 5");
        FaceRounds x = Books.withRounds(2);
        Books.typeAll(x, "5r359:59:59");
        due.of("one pointing", x.pointAll(0, 1), 1);
        due.of("the text stays", x.count(8), 11);
        due.of("target", x.pointing(0, 1, 1, 0, 0), 5);
        due.of("reading", x.pointing(0, 1, 1, 0, 1), 1295999);
        due.of("not in face 0", x.round(0, 1, 0), 0);
        due.of("not in round 0", x.round(0, 0, 1), 0);
        Books.typeAll(x, "0l0:0:0;5l10:20:30;0r180:5:9;1l0:59:9");
        due.of("count(7)", x.count(7), 4);
        due.of("undo()", x.undo(), 3);
        due.of("four pointings", x.pointAll(0, 1), 4);
        due.of("one act", x.count(7), 4);
        int[] targets = {0, 5, 1};
        int[] readings = {0, 37230, 3549};
        for (int place = 0; place < 3; place++) {
            due.of("target " + place, x.pointing(0, 1, 0, place, 0), targets[place]);
            due.of("reading " + place, x.pointing(0, 1, 0, place, 1), readings[place]);
            due.of("struck " + place, x.pointing(0, 1, 0, place, 2), 0);
        }
        due.of("face 1", x.pointing(0, 1, 1, 0, 1), 648309);
        due.of("count(2)", x.count(2), 4);
        due.of("undo()", x.undo(), 3);
        due.of("count(2)", x.count(2), 0);
        due.of("the text stays", x.count(8), 37);
        x.point(0, 1, 3, 0, 7);
        due.of("behind others", x.pointAll(0, 1), 4);
        due.of("round(0, 1, 0)", x.round(0, 1, 0), 4);
        due.of("last one", x.pointing(0, 1, 0, 3, 0), 1);
        due.of("in another round", x.pointAll(0, 0), 4);
    }

    private static void longTexts() {
        due.in("promise 5, long texts");
        FaceRounds x = Books.withRounds(1);
        String seven = "0l0:0:0;1l0:0:1;2l0:0:2;3l0:0:3;4l0:0:4;5l0:0:5;0r0:0:6";
        Books.typeAll(x, seven);
        due.of("seven", x.pointAll(0, 0), 7);
        due.of("last of face 0", x.pointing(0, 0, 0, 5, 1), 5);
        due.of("face 1", x.pointing(0, 0, 1, 0, 1), 6);
        Books.typeAll(x, seven + ";1r0:");
        due.of("ends too early at 60", x.pointAll(0, 0), -2000160);
        Books.typeAll(x, seven + ";1r0;");
        due.of("fault in the last place", x.pointAll(0, 0), -2000159);
        Books.typeAll(x, seven + ";");
        due.of("ends behind the seventh", x.pointAll(0, 0), -2000156);
        x = Books.withRounds(1);
        Books.typeAll(x, "0l100:10:10;1l200:20:20;2l300:30:30;3l359:59:59;4l111:11:11x");
        due.of("59 characters and a wrong one", x.pointAll(0, 0), -2000159);
        x.clearText();
        Books.typeAll(x, "0l100:10:10;1l200:20:20;2l300:30:30;3l359:59:59;4l111:11:11");
        due.of("59 characters", x.pointAll(0, 0), 5);
    }

    private static void faults() {
        due.in("promise 5, faults");
        String[] texts = {
            "", "6", "x", " 0l0:0:0", ";", "0", "0x", "0L0:0:0", "00", "0l", "0l:", "0l-", "0l0", "0l00", "0l01:0:0",
            "0l359", "0l360", "0l36:", "0l1234", "0l400", "0l99", "0l1:", "0l1:60", "0l1:6:", "0l1:00", "0l1:05",
            "0l1:59", "0l1:123", "0l1:59:59;", "0l1:2;", "0l1:2:", "0l1:2:3x", "0l1:2:3 ", "0l1:2:3;;", "0l1:2:60",
            "0l1:2:00", "0l1:2:03", "0l1:2:123", "0l1:2:3:", "0l1:2:3;6", "0l1:2:3;5", "0l1:2:3;5r", "0l1:2:3,5r1:2:3",
            "0l1.2:3", "0l1:2:3;5r359:59:60", "0r9l", "7l1:2:3", "0l/", "/", "0l1:2:3;1l360:0:0"
        };
        int[] places = {
            0, 0, 0, 0, 0, 1, 1, 1, 1, 2, 2, 2, 3, 3, 3,
            5, 4, 5, 5, 4, 4, 4, 5, 6, 5, 5,
            6, 6, 10, 5, 6, 7, 7, 8, 7,
            7, 7, 8, 7, 8, 9, 10, 7,
            3, 18, 3, 0, 2, 0, 12
        };
        FaceRounds x = Books.withRounds(1);
        for (int i = 0; i < texts.length; i++) {
            Books.typeAll(x, texts[i]);
            due.of("pointAll of '" + texts[i] + "'", x.pointAll(0, 0), -2000100 - places[i]);
        }
        due.of("count(2)", x.count(2), 0);
        due.of("count(7)", x.count(7), 2);
        foreignDigits();
    }

    private static void foreignDigits() {
        // Signs whose low bits look like those that are allowed.
        char[] foreign = {(char) 1632, (char) (48 + 256), (char) (48 + 65280)};
        for (char sign : foreign) {
            FaceRounds x = Books.withRounds(1);
            x.type(sign);
            due.of("pointAll of " + (int) sign, x.pointAll(0, 0), -2000100);
            Books.typeAll(x, "0l");
            x.type(sign);
            due.of("pointAll of 0l, " + (int) sign, x.pointAll(0, 0), -2000102);
        }
    }

    private static void notPossible() {
        due.in("promise 5, not possible");
        FaceRounds x = Books.withRounds(1);
        Books.typeAll(x, "0l0:0:0;1l1:0:0;0l0:0:0");
        due.of("twice in the text", x.pointAll(0, 0), FaceRounds.NOT_POSSIBLE);
        due.of("none of them", x.count(2), 0);
        due.of("count(7)", x.count(7), 2);
        Books.typeAll(x, "0l0:0:0;0r0:0:0");
        due.of("in two faces", x.pointAll(0, 0), 2);
        Books.typeAll(x, "1l0:0:0;0r0:0:0");
        due.of("pointed at already", x.pointAll(0, 0), FaceRounds.NOT_POSSIBLE);
        due.of("none of them", x.count(2), 2);
        Books.typeAll(x, "1l0:0:0;0r0:0:0;");
        due.of("the fault comes first", x.pointAll(0, 0), -2000116);
        x.close(0, 0, 1, 0);
        Books.typeAll(x, "1l0:0:0;1r0:0:0");
        due.of("closed", x.pointAll(0, 0), FaceRounds.NOT_POSSIBLE);
        due.of("none of them", x.count(2), 2);
        due.of("count(7)", x.count(7), 4);
        Books.typeAll(x, "1l0:0:0");
        due.of("in the open face", x.pointAll(0, 0), 1);
    }

    private static void unknown() {
        due.in("promise 5, unknown");
        FaceRounds x = Books.withRounds(1);
        due.of("no such set-up", x.pointAll(1, 0), FaceRounds.UNKNOWN);
        due.of("negative set-up", x.pointAll(-1, 0), FaceRounds.UNKNOWN);
        due.of("no such round", x.pointAll(0, 1), FaceRounds.UNKNOWN);
        due.of("negative round", x.pointAll(0, -1), FaceRounds.UNKNOWN);
        due.of("the empty text", x.pointAll(0, 0), -2000100);
    }
}
