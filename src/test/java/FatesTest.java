/**
 * Promises 51 and 52. The draws by 16, reckoned by hand: seed 5: 15 9 8 5 1 ..; 6: 6 11 ..; 7: 12 14 ..;
 * the greatest int: 9 9 ..; the least int: 0 12 ..
 */
public final class FatesTest {
    private static final Check check = new Check();

    public static void main(String[] args) {
        fates();
        refusedFates();
        spans();
        check.end();
    }

    /** In year 1 two draw, in year 2 three: who dies in it as told, and who is born in it, too. */
    private static PuppetHeirs family() {
        return Check.told("hand 1 0 0;hand 1 0 2;hand 1 2 0;puppet 1 1 9;puppet 1 1 9;works 0 0;works 1 1;"
            + "act 0 0 1 end;act 0 0 end;act 8 1 end;");
    }

    private static void fates() {
        PuppetHeirs x = family();
        due(x, 5, 9, 1, 2, 0, 3, 16);
        due(x, 5, 10, 1, 1, 0, 2, 16);
        due(x, 5, 9, 2, 0, 2, 0, 16);
        due(x, 5, 8, 2, 1, 0, 1, 14);
        due(x, 5, 2, 2, 1, 0, 1, 14);
        due(x, 5, 1, 2, 2, 0, 2, 14);
        due(x, 5, 0, 2, 2, 0, 2, 14);
        due(x, 5, 16, 1, 0, 2, 0, 18);
        due(x, 5, 16, 40, 0, 2, 0, 18);
        due(x, Integer.MIN_VALUE, 1, 1, 1, 0, 2, 16);
        check.due(51, "nothing stays changed", 0, () -> x.told(3));
        check.due(51, "nothing stays changed", 18, () -> x.told(5));
        check.due(51, "nothing to undo", 0, () -> x.count(2));
        x.years(1);
        // from year 1 on the first year is year 2: 15 9 8
        due(x, 5, 9, 1, 1, 0, 1, 14);
    }

    private static void due(PuppetHeirs x, int seed, int q, int n, int... want) {
        for (int i = 0; i < 4; i++) {
            int what = i;
            check.due(51, "fates(" + seed + ", " + q + ", " + n + ", " + i + ")", want[i], () -> x.fates(seed, q, n, what));
        }
    }

    private static void refusedFates() {
        PuppetHeirs x = family();
        int[][] wrong = {{1, -1, 1, 0}, {1, 17, 1, 0}, {1, 0, 0, 0}, {1, 0, 41, 0}, {1, 0, 1, -1}, {1, 0, 1, 4}};
        for (int[] w : wrong) {
            check.due(51, "fates(.., " + w[1] + ", " + w[2] + ", " + w[3] + ")", Check.NO_ARGUMENT,
                () -> x.fates(w[0], w[1], w[2], w[3]));
        }
        check.due(51, "refusals", 6, () -> x.status(1));
    }

    private static void spans() {
        PuppetHeirs x = family();
        span(x, 1, 5, 3, 9, 1, 0, 0);
        span(x, 2, 5, 3, 9, 1, 1, 0);
        span(x, 2, 5, 3, 9, 1, 2, 0);
        span(x, 3, 5, 3, 9, 1, 2, 1);
        span(x, 0, 5, 3, 9, 1, 2, 2);
        span(x, 1, Integer.MAX_VALUE, 2, 1, 1, 2, 0);
        span(x, 1, Integer.MAX_VALUE, 2, 1, 1, 0, 0);
        span(x, 2, Integer.MAX_VALUE, 2, 1, 1, 1, 0);
        span(x, 20, 1, 20, 0, 40, 2, 2);
        span(x, 0, 1, 20, 16, 40, 1, 2);
        check.due(52, "nothing stays changed", 0, () -> x.told(3));
        int[][] wrong = {{0, 0, 1, 0, 0}, {21, 0, 1, 0, 0}, {1, -1, 1, 0, 0}, {1, 17, 1, 0, 0}, {1, 0, 0, 0, 0},
            {1, 0, 41, 0, 0}, {1, 0, 1, -1, 0}, {1, 0, 1, 3, 0}, {1, 0, 1, 0, 3}, {1, 0, 1, 1, -1}, {1, 0, 1, 2, 3}};
        for (int[] w : wrong) {
            check.due(52, "span of " + java.util.Arrays.toString(w), Check.NO_ARGUMENT,
                () -> x.span(1, w[0], w[1], w[2], w[3], w[4]));
        }
        check.due(52, "refusals", 0, () -> x.status(0));
        check.due(52, "refusals", 11, () -> x.status(1));
        check.due(52, "no hands", Check.NO_ARGUMENT, () -> new PuppetHeirs().span(1, 1, 0, 1, 0, 0));
    }

    private static void span(PuppetHeirs x, int want, int seed, int many, int q, int n, int what, int hand) {
        check.due(52, "span(" + seed + ", " + many + ", " + q + ", " + n + ", " + what + ", " + hand + ")", want,
            () -> x.span(seed, many, q, n, what, hand));
    }
}
