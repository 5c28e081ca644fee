/** Compares answers with those that are due; ends the test with exit code 1 if one is not. */
final class Due {
    private String part = "";
    private int compared = 0;
    private int wrong = 0;

    /** Names what the next answers belong to. */
    void in(String name) {
        part = name;
    }

    void of(String call, long got, long want) {
        compared++;
        if (got != want) {
            wrong++;
            System.out.println(part + ": " + call + " answered " + got + ", due is " + want);
        }
    }

    void end() {
        System.out.println(wrong == 0
            ? compared + " answers are as due"
            : wrong + " of " + compared + " answers are not as due");
        if (wrong != 0 || compared == 0) {
            System.exit(1);
        }
    }

    static void typeAll(FaceRounds x, String text) {
        x.clearText();
        for (int i = 0; i < text.length(); i++) {
            x.type(text.charAt(i));
        }
    }

    /** Points at a target in both faces without any error of the line of sight. */
    static void sight(FaceRounds x, int setUp, int round, int target, int reading) {
        x.point(setUp, round, target, 0, reading);
        x.point(setUp, round, target, 1, (reading + 648000) % 1296000);
    }

    /** A book with one set-up and so many rounds in it, all without pointings. */
    static FaceRounds withRounds(int rounds) {
        FaceRounds x = new FaceRounds();
        x.setUp();
        for (int i = 0; i < rounds; i++) {
            x.begin(0);
        }
        return x;
    }
}
