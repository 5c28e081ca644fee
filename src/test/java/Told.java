/** A book that has something of all, and all that such a book tells, to compare two of them. */
final class Told {
    private Told() {
    }

    /** All four set-ups, six rounds in the first one and one in the second; four states and a snapshot. */
    static FaceRounds book(String text) {
        FaceRounds x = Books.withRounds(6);
        x.setUp();
        x.setUp();
        x.begin(1);
        Books.typeAll(x, text);
        int[] targets = {0, 1, 2};
        for (int target : targets) {
            Books.sight(x, 0, 0, target, target * 1000);
            Books.sight(x, 0, 1, target, target * 1050);
        }
        x.point(0, 0, 3, 0, 7777);
        x.close(0, 0, 0, 9);
        x.setDistance(2, 40);
        x.centre(0, 30, 6);
        x.keep();
        x.point(0, 1, 4, 1, 8888);
        x.strike(0, 1, 2, 0, true);
        x.setUp();
        x.setLimit(7);
        return x;
    }

    /** What the book tells, at the end by calls that change it; 512 calls of the book are enough for all. */
    static int[] by(FaceRounds x) {
        int[] told = new int[256];
        int all = 0;
        for (int what = 0; what < 9; what++) {
            told[all++] = x.count(what);
        }
        for (int setUp = 0; setUp < 2; setUp++) {
            told[all++] = x.centring(setUp, false);
            told[all++] = x.centring(setUp, true);
        }
        for (int target = 0; target < 3; target++) {
            for (int what = 0; what < 5; what++) {
                told[all++] = x.direction(0, target, what);
            }
        }
        all = tellRound(x, 0, 0, told, all);
        all = tellRound(x, 0, 1, told, all);
        all = tellRound(x, 1, 0, told, all);
        for (int target = 0; target < 6; target++) {
            told[all++] = x.setDistance(target, 9999);
        }
        told[all++] = x.pointAll(1, 0);
        told[all] = x.clearText();
        return told;
    }

    private static int tellRound(FaceRounds x, int setUp, int round, int[] told, int from) {
        int all = from;
        for (int what = 0; what < 8; what++) {
            told[all++] = x.round(setUp, round, what);
        }
        for (int face = 0; face < 2; face++) {
            for (int place = 0; place < 5; place++) {
                for (int what = 0; what < 4; what++) {
                    told[all++] = x.pointing(setUp, round, face, place, what);
                }
            }
        }
        for (int target = 0; target < 3; target++) {
            told[all++] = x.reduced(setUp, round, target, 0);
            told[all++] = x.reduced(setUp, round, target, 3);
        }
        return all;
    }
}
