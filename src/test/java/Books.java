/** Books for the tests, made by the calls that a user makes. */
final class Books {
    private Books() {
    }

    static void typeAll(FaceRounds x, String text) {
        x.clearText();
        for (int i = 0; i < text.length(); i++) {
            x.type(text.charAt(i));
        }
    }

    /** Points at a target in both faces without any error of the line of sight. */
    static void sight(FaceRounds x, int setUp, int round, int target, int reading) {
        x.point(setUp, round, target, 0, reading);
        x.point(setUp, round, target, 1, (reading + 648000) % 1296000);
    }

    /** A book with one set-up and so many rounds in it, all without pointings. */
    static FaceRounds withRounds(int rounds) {
        FaceRounds x = new FaceRounds();
        x.setUp();
        for (int i = 0; i < rounds; i++) {
            x.begin(0);
        }
        return x;
    }

    /** Rounds that point at target 0 at the circle's turn, and at target 1 so much further. */
    static FaceRounds withTarget1(int... further) {
        FaceRounds x = withRounds(further.length);
        for (int round = 0; round < further.length; round++) {
            sight(x, 0, round, 0, round * 200000);
            sight(x, 0, round, 1, (round * 200000 + further[round]) % 1296000);
        }
        return x;
    }
}
