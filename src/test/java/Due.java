/** Compares answers with those that are due; ends the test with exit code 1 if one is not. */
final class Due {
    private String part = "";
    private int compared = 0;
    private int wrong = 0;

    /** Names what the next answers belong to. */
    void in(String name) {
        part = name;
    }

    void of(String call, long got, long want) {
        compared++;
        if (got != want) {
            wrong++;
            System.out.println(part + ": " + call + " answered " + got + ", due is " + want);
        }
    }

    void end() {
        System.out.println(wrong == 0
            ? compared + " answers are as due"
            : wrong + " of " + compared + " answers are not as due");
        if (wrong != 0 || compared == 0) {
            System.exit(1);
        }
    }
}
