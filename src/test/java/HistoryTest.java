/** Promises 15, 16 and 17: undo, keep, restore. */
public final class HistoryTest {
    private static final Due due = new Due();

    public static void main(String[] args) {
        undo();
        theOldestIsDropped();
        everyActIsRecorded();
        undoBringsAllBack();
        nothingIsLeftBehind();
        keepAndRestore();
        snapshotIsApart();
        due.end();
    }

    private static void undo() {
        due.in("promise 15");
        FaceRounds x = new FaceRounds();
        due.of("undo()", x.undo(), FaceRounds.NONE);
        x.setUp();
        x.setUp();
        due.of("undo()", x.undo(), 1);
        due.of("count(0)", x.count(0), 1);
        due.of("undo()", x.undo(), 0);
        due.of("count(0)", x.count(0), 0);
        due.of("undo()", x.undo(), FaceRounds.NONE);
        due.of("count(7)", x.count(7), 0);
        x.type('0');
        x.setUp();
        x.type('1');
        due.of("undo()", x.undo(), 0);
        due.of("the text is not part of it", x.count(8), 2);
    }

    private static void theOldestIsDropped() {
        due.in("promise 15, oldest");
        FaceRounds x = new FaceRounds();
        for (int limit = 1; limit <= 11; limit++) {
            x.setLimit(limit);
            due.of("count(7)", x.count(7), Math.min(limit, 4));
        }
        for (int left = 3; left >= 0; left--) {
            due.of("undo()", x.undo(), left);
            due.of("count(5)", x.count(5), 7 + left);
        }
        due.of("undo()", x.undo(), FaceRounds.NONE);
        due.of("count(5)", x.count(5), 7);
        x.setLimit(50);
        x.setLimit(51);
        due.of("undo()", x.undo(), 1);
        due.of("count(5)", x.count(5), 50);
        x.setLimit(52);
        due.of("undo()", x.undo(), 1);
        due.of("undo()", x.undo(), 0);
        due.of("count(5)", x.count(5), 7);
    }

    private static void everyActIsRecorded() {
        due.in("history");
        FaceRounds x = new FaceRounds();
        x.setUp();
        due.of("setUp", x.count(7), 1);
        x.begin(0);
        due.of("begin", x.count(7), 2);
        x.point(0, 0, 0, 0, 5);
        due.of("point", x.count(7), 3);
        x.undo();
        Books.typeAll(x, "0l0:0:0;0r180:0:0;1l1:0:0;1r181:0:0");
        x.pointAll(0, 0);
        due.of("pointAll", x.count(7), 3);
        x.undo();
        x.pointAll(0, 0);
        x.close(0, 0, 0, 5);
        due.of("close", x.count(7), 4);
        x.undo();
        x.strike(0, 0, 1, 0, true);
        due.of("strike", x.count(7), 4);
        x.undo();
        x.wipe(0, 0, 1);
        due.of("wipe", x.count(7), 4);
        x.undo();
        x.setLimit(7);
        due.of("setLimit", x.count(7), 4);
        x.undo();
        x.centre(0, 1, 1);
        due.of("centre", x.count(7), 4);
        x.undo();
        x.setDistance(0, 7);
        due.of("setDistance", x.count(7), 4);
        x.undo();
        x.keep();
        due.of("keep is none", x.count(7), 3);
        x.restore();
        due.of("restore", x.count(7), 4);
        x.undo();
        x.type('1');
        x.clearText();
        due.of("typing is none", x.count(7), 3);
        x.clean(0);
        due.of("clean with none bad", x.count(7), 3);
    }

    private static void undoBringsAllBack() {
        due.in("undo of all parts");
        FaceRounds x = Books.withRounds(1);
        Books.sight(x, 0, 0, 0, 100);
        Books.sight(x, 0, 0, 1, 5000);
        x.close(0, 0, 0, 130);
        x.strike(0, 0, 1, 1, true);
        due.of("undo()", x.undo(), 3);
        due.of("not struck", x.round(0, 0, 5), 0);
        due.of("undo()", x.undo(), 2);
        due.of("open", x.round(0, 0, 2), FaceRounds.NONE);
        due.of("corrected", x.pointing(0, 0, 0, 1, 3), 5000);
        due.of("undo()", x.undo(), 1);
        due.of("round(0, 0, 1)", x.round(0, 0, 1), 1);
        due.of("undo()", x.undo(), 0);
        due.of("round(0, 0, 0)", x.round(0, 0, 0), 1);
        due.of("point as if never done", x.point(0, 0, 1, 0, 6000), 2);
        due.of("its reading", x.pointing(0, 0, 0, 1, 1), 6000);
    }

    private static void nothingIsLeftBehind() {
        due.in("undo and restore leave nothing behind");
        FaceRounds x = new FaceRounds();
        x.keep();
        for (int way = 0; way < 2; way++) {
            x.setUp();
            x.begin(0);
            x.point(0, 0, 0, 0, 100);
            x.point(0, 0, 1, 0, 200);
            x.strike(0, 0, 0, 0, true);
            x.close(0, 0, 0, 300);
            x.centre(0, 4, 5);
            x.setDistance(3, 6);
            due.of("restore()", x.restore(), 0);
            due.of("begin(0)", x.begin(0), FaceRounds.UNKNOWN);
            due.of("setUp()", x.setUp(), 0);
            due.of("centring", x.centring(0, false) * 100 + x.centring(0, true), 0);
            due.of("begin(0)", x.begin(0), 0);
            due.of("no pointing", x.pointing(0, 0, 0, 0, 0), FaceRounds.NONE);
            due.of("no closing", x.round(0, 0, 2), FaceRounds.NONE);
            due.of("counts", x.count(2) + x.count(3) + x.count(6), 0);
            due.of("distance", x.setDistance(3, 7), 100);
            x.restore();
        }
        x.setUp();
        x.begin(0);
        x.point(0, 0, 5, 1, 100);
        x.close(0, 0, 1, 90);
        for (int left = 3; left > 0; left--) {
            due.of("undo()", x.undo(), left);
        }
        due.of("begin(0)", x.begin(0), 0);
        due.of("no pointing", x.pointing(0, 0, 1, 0, 0), FaceRounds.NONE);
        due.of("open", x.point(0, 0, 5, 1, 70), 1);
        due.of("not struck", x.round(0, 0, 5), 0);
    }

    private static void keepAndRestore() {
        due.in("promises 16 and 17");
        FaceRounds x = new FaceRounds();
        due.of("restore()", x.restore(), FaceRounds.NONE);
        due.of("count(7)", x.count(7), 0);
        due.of("keep()", x.keep(), 0);
        due.of("restore() of the empty book", x.restore(), 0);
        due.of("count(7)", x.count(7), 1);
        x.setUp();
        x.begin(0);
        Books.sight(x, 0, 0, 0, 100);
        x.close(0, 0, 1, 5);
        x.strike(0, 0, 0, 0, true);
        x.centre(0, 3, 4);
        x.setLimit(77);
        x.setDistance(2, 55);
        due.of("keep()", x.keep(), 1);
        due.of("keep() again", x.keep(), 1);
        int drift = x.round(0, 0, 3);
        x.setUp();
        x.wipe(0, 0, 0);
        x.strike(0, 0, 0, 0, false);
        x.centre(0, 0, 0);
        x.setLimit(20);
        x.setDistance(2, 100);
        Books.typeAll(x, "abc");
        due.of("restore()", x.restore(), 1);
        due.of("count(0)", x.count(0), 1);
        due.of("drift", x.round(0, 0, 3), drift);
        due.of("struck", x.round(0, 0, 5), 1);
        due.of("centring", x.centring(0, false) * 100 + x.centring(0, true), 304);
        due.of("limit", x.count(5), 77);
        due.of("distance", x.setDistance(2, 55), FaceRounds.NONE);
        due.of("the text is not part of it", x.count(8), 3);
        due.of("count(7)", x.count(7), 4);
        due.of("undo()", x.undo(), 3);
        due.of("count(0)", x.count(0), 2);
        due.of("count(5)", x.count(5), 20);
        due.of("restore() once more", x.restore(), 1);
        due.of("restore() once more", x.restore(), 1);
        due.of("count(5)", x.count(5), 77);
    }

    private static void snapshotIsApart() {
        due.in("snapshot");
        FaceRounds x = Books.withRounds(1);
        x.point(0, 0, 0, 0, 100);
        x.keep();
        x.restore();
        x.point(0, 0, 1, 0, 200);
        x.strike(0, 0, 0, 0, true);
        due.of("restore()", x.restore(), 1);
        due.of("count(2)", x.count(2), 1);
        due.of("count(3)", x.count(3), 0);
        x.setUp();
        due.of("keep()", x.keep(), 2);
        due.of("undo()", x.undo(), 3);
        due.of("count(0)", x.count(0), 1);
        due.of("undo leaves the snapshot", x.restore(), 2);
        for (int i = 0; i < 4; i++) {
            x.undo();
        }
        due.of("count(7)", x.count(7), 0);
        due.of("restore()", x.restore(), 2);
        due.of("count(7)", x.count(7), 1);
    }
}
