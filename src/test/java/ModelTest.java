/** All promises: long runs of calls, each answer compared with that of PlainRounds. */
public final class ModelTest {
    private static final int RUNS = 400;
    private static final int CALLS = 512;
    private static final Due due = new Due();

    private final FaceRounds x = new FaceRounds();
    private final PlainRounds plain = new PlainRounds();
    private final int[] aims = new int[6];
    private final int noise;
    private int calls = 0;
    private long seed;

    private ModelTest(int run) {
        seed = run * 7919L + 1;
        noise = new int[] {3, 15, 40, 400, 700000}[below(5)];
        for (int target = 0; target < 6; target++) {
            aims[target] = below(4) == 0 ? below(30) : below(1296000);
        }
    }

    public static void main(String[] args) {
        for (int run = 0; run < RUNS; run++) {
            due.in("run " + run);
            new ModelTest(run).run();
        }
        due.end();
    }

    private int below(int bound) {
        seed = seed * 6364136223846793005L + 1442695040888963407L;
        return (int) ((seed >>> 33) % bound);
    }

    /** Mostly 0 to most, at times one outside of it. */
    private int about(int most) {
        int dice = below(60);
        if (dice == 0) {
            return most + 1;
        }
        if (dice == 1) {
            return -1;
        }
        if (dice == 2) {
            return below(2) == 0 ? Integer.MIN_VALUE : Integer.MAX_VALUE;
        }
        return below(most + 1);
    }

    private int aSetUp() {
        return about(Math.max(0, plain.count(0) - 1));
    }

    private int aRound() {
        return below(3) == 0 ? about(5) : about(2);
    }

    private int reading(int round, int target, int face) {
        if (below(40) == 0) {
            return about(1295999);
        }
        int drawn = aims[target] + round * 216000 + face * 648000 + below(2 * noise + 1) - noise;
        return Math.floorMod(drawn, 1296000);
    }

    private void same(String call, int got, int want) {
        calls++;
        due.of("call " + calls + ", " + call, got, want);
    }

    private void run() {
        while (calls < CALLS - 40) {
            int dice = below(100);
            if (dice < 4) {
                grow();
            } else if (dice < 12) {
                pointTargets();
            } else if (dice < 40) {
                change();
            } else if (dice < 44) {
                pointText();
            } else {
                ask();
            }
        }
    }

    private void grow() {
        if (plain.count(0) == 0 || below(4) == 0) {
            same("setUp()", x.setUp(), plain.setUp());
        }
        int setUp = aSetUp();
        same("begin", x.begin(setUp), plain.begin(setUp));
    }

    private void point(int setUp, int round, int target, int face) {
        int reading = reading(Math.floorMod(round, 6), Math.floorMod(target, 6), face);
        same("point(" + setUp + ", " + round + ", " + target + ", " + face + ", " + reading + ")",
            x.point(setUp, round, target, face, reading), plain.point(setUp, round, target, face, reading));
    }

    private void pointTargets() {
        int setUp = aSetUp();
        int round = aRound();
        int first = below(3) == 0 ? below(6) : 0;
        int many = 1 + below(6);
        for (int i = 0; i < many; i++) {
            point(setUp, round, (first + i) % 6, 0);
        }
        for (int i = many - 1; i >= 0; i--) {
            point(setUp, round, (first + i) % 6, 1);
        }
        if (below(2) == 0) {
            close(setUp, round, below(2), first);
        }
    }

    private void close(int setUp, int round, int face, int target) {
        int reading = reading(Math.floorMod(round, 6), target, Math.floorMod(face, 2));
        same("close(" + setUp + ", " + round + ", " + face + ", " + reading + ")",
            x.close(setUp, round, face, reading), plain.close(setUp, round, face, reading));
    }

    private void change() {
        int setUp = aSetUp();
        int round = aRound();
        int target = about(5);
        int face = about(1);
        switch (below(10)) {
            case 0:
                point(setUp, round, target, face);
                break;
            case 1:
                close(setUp, round, face, Math.floorMod(target, 6));
                break;
            case 2:
            case 3:
                boolean struck = below(2) == 0;
                same("strike(" + setUp + ", " + round + ", " + target + ", " + face + ", " + struck + ")",
                    x.strike(setUp, round, target, face, struck), plain.strike(setUp, round, target, face, struck));
                break;
            case 4:
                same("wipe(" + setUp + ", " + round + ", " + target + ")",
                    x.wipe(setUp, round, target), plain.wipe(setUp, round, target));
                break;
            case 5:
                same("clean(" + setUp + ")", x.clean(setUp), plain.clean(setUp));
                break;
            case 6:
                set(setUp, target);
                break;
            default:
                goBack();
                break;
        }
    }

    private void set(int setUp, int target) {
        int limit = below(2) == 0 ? about(600) : below(30);
        same("setLimit(" + limit + ")", x.setLimit(limit), plain.setLimit(limit));
        int offset = about(99);
        int sector = about(23);
        same("centre(" + setUp + ", " + offset + ", " + sector + ")",
            x.centre(setUp, offset, sector), plain.centre(setUp, offset, sector));
        int distance = below(2) == 0 ? below(20) : about(9999);
        same("setDistance(" + target + ", " + distance + ")",
            x.setDistance(target, distance), plain.setDistance(target, distance));
    }

    private void goBack() {
        switch (below(6)) {
            case 0:
                same("keep()", x.keep(), plain.keep());
                break;
            case 1:
                same("restore()", x.restore(), plain.restore());
                break;
            default:
                same("undo()", x.undo(), plain.undo());
                break;
        }
    }

    /** A text that is right, or nearly so, or a part of one. */
    private void pointText() {
        if (below(3) > 0) {
            same("clearText()", x.clearText(), plain.clearText());
        }
        StringBuilder text = new StringBuilder();
        int many = 1 + below(3);
        for (int i = 0; i < many; i++) {
            text.append(i == 0 ? "" : ";").append(below(6)).append(below(2) == 0 ? 'l' : 'r');
            text.append(below(362)).append(':').append(below(61)).append(':').append(below(61));
        }
        String signs = "0123456789lr:;:;x ";
        if (below(3) == 0) {
            text.setCharAt(below(text.length()), signs.charAt(below(signs.length())));
        }
        if (below(5) == 0) {
            text.setLength(below(text.length()));
        }
        for (int i = 0; i < text.length(); i++) {
            char sign = text.charAt(i);
            same("type('" + sign + "')", x.type(sign), plain.type(sign));
        }
        int setUp = aSetUp();
        int round = aRound();
        same("pointAll(" + setUp + ", " + round + ") of " + text, x.pointAll(setUp, round), plain.pointAll(setUp, round));
    }

    private void ask() {
        int setUp = aSetUp();
        int round = aRound();
        int target = about(5);
        int other = about(5);
        boolean flag = below(2) == 0;
        int face = about(1);
        int what = about(8);
        switch (below(8)) {
            case 0:
                same("pointing", x.pointing(setUp, round, face, other, what % 4), plain.pointing(setUp, round, face, other, what % 4));
                break;
            case 1:
                same("round what " + what, x.round(setUp, round, what), plain.round(setUp, round, what));
                break;
            case 2:
                same("reduced what " + what % 5, x.reduced(setUp, round, target, what % 5), plain.reduced(setUp, round, target, what % 5));
                break;
            case 3:
                same("direction what " + what % 6, x.direction(setUp, target, what % 6), plain.direction(setUp, target, what % 6));
                break;
            case 4:
                same("angle", x.angle(setUp, target, other, flag), plain.angle(setUp, target, other, flag));
                break;
            case 5:
                same("byAngles", x.byAngles(setUp, target), plain.byAngles(setUp, target));
                break;
            case 6:
                same("count what " + what, x.count(what), plain.count(what));
                break;
            default:
                same("centring", x.centring(setUp, flag), plain.centring(setUp, flag));
                break;
        }
    }
}
