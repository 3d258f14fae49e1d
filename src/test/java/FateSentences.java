/**
 * Promises 51 and 52. The draws by 16, reckoned beside the program: seed 0: 0 12 4 5; 1: 6 14 1; 2: 12; 3: 3; 4: 9;
 * 5: 15 9 8 5 1 12 8 3; 6: 6 11 6; 7: 12; 8: 2; -1: 9 9 6; the greatest int as -1, the least as 0.
 */
final class FateSentences extends Sentences {
    private static final int LEAST = Integer.MIN_VALUE;
    private static final int GREATEST = Integer.MAX_VALUE;
    private static final String HAND = "hand 1 0 0;";
    private static final String PUPPET = "puppet 1 1 9;";

    @Override
    void hold() {
        draws();
        below();
        whoDraws();
        fates();
        refusedFates();
        spans();
        refusedSpans();
    }

    private void draws() {
        against(51, "DRAW: the SEED (32 bits) becomes itself times 1,103,515,245, and 12,345 (it wraps); its bits 16 to 30, what is left of them.");
        told(HAND);
        int[][] first = {{0, 0}, {1, 6}, {2, 12}, {3, 3}, {4, 9}, {5, 15}, {6, 6}, {7, 12}, {8, 2}, {-1, 9}, {-2, 3}, {GREATEST, 9},
            {GREATEST - 1, 3}, {LEAST, 0}, {LEAST + 1, 6}, {65536, 13}};
        for (int[] seed : first) {
            is(1, "fates", seed[0], seed[1], 1, 0);
            is(0, "fates", seed[0], seed[1] + 1, 1, 0);
        }
        int[] fifth = {15, 9, 8, 5, 1, 12, 8, 3};
        for (int n = 1; n <= 8; n++) {
            int least = 16;
            for (int i = 0; i < n; i++) least = Math.min(least, fifth[i]);
            is(1, "fates", 5, least, n, 0);
            is(0, "fates", 5, least + 1, n, 0);
        }
    }

    private void below() {
        against(51, "DRAW by 16 below Q: he dies in (a), too (by number with the others).");
        told(HAND);
        is(1, "fates", 0, 0, 1, 0);
        is(0, "fates", 0, 1, 1, 0);
        is(1, "fates", 5, 15, 1, 0);
        is(0, "fates", 5, 16, 1, 0);
        // he is dead as PUPPETS choose: the heir works in the same YEAR, and the PUPPET wears
        told(HAND + HAND + PUPPET + "works 0 0;act 8 0 end;");
        is(1, "fates", 6, 7, 1, 0);
        is(0, "fates", 6, 7, 1, 1);
        is(1, "fates", 6, 7, 1, 2);
        is(8, "fates", 6, 7, 1, 3);
        told(HAND + PUPPET + "works 0 0;act 8 0 end;");
        is(1, "fates", 6, 7, 1, 1);
        is(0, "fates", 6, 7, 1, 2);
        is(9, "fates", 6, 7, 1, 3);
        // who dies as told dies too, whatever he draws
        told("hand 1 0 1;" + HAND);
        is(1, "fates", 5, 0, 1, 0);
        is(1, "fates", 5, 9, 1, 0);
        is(0, "fates", 5, 10, 1, 0);
    }

    private void whoDraws() {
        against(51, "FATES by a SEED: as each YEAR begins, for each who is ALIVE in it (ahead of (a)), by number:");
        // 15 is of hand 0, 9 of hand 1
        told(HAND + HAND);
        lives(5, 10, 1, 1, 0);
        lives(5, 9, 1, 1, 1);
        // 15, then 8 and 5 in YEAR 2
        lives(5, 8, 2, 1, 0);
        lives(5, 9, 2, 0, 0);
        // who is not born draws not; who is born in the YEAR does: 15 of 1, then 9 and 8
        told("hand 1 2 0;" + HAND);
        lives(5, 15, 1, 0, 1);
        lives(5, 16, 1, 0, 0);
        lives(5, 9, 2, 1, 0);
        lives(5, 10, 2, 0, 0);
        // who dies in the YEAR as told draws, the dead do not: 15 and 9, then 8
        told("hand 1 0 1;" + HAND);
        lives(5, 10, 1, 0, 0);
        lives(5, 9, 1, 0, 1);
        lives(5, 8, 2, 0, 1);
        lives(5, 9, 2, 0, 0);
        told(HAND + HAND);
        answer("dies", 0);
        lives(5, 15, 1, 0, 1);
        lives(5, 16, 1, 0, 0);
        // from now on, not from the beginning
        told("hand 1 2 0;" + HAND);
        answer("years", 1);
        lives(5, 9, 1, 1, 1);
        lives(5, 10, 1, 1, 0);
        is(1, "told", 3);
    }

    private void lives(int seed, int q, int n, int... want) {
        int all = 0;
        for (int h = 0; h < want.length; h++) {
            is(want[h], "span", seed, 1, q, n, 2, h);
            all += want[h];
        }
        is(all, "fates", seed, q, n, 0);
    }

    private void fates() {
        against(51, "FATES: n YEARS (1 to 40), Q (0 to 16): 0 HANDS ALIVE then, 1 PUPPETS that lack HANDS, 2 ACTS that can be CAST, 3 STRINGS in all.");
        told(HAND + "hand 1 0 2;hand 1 2 0;" + PUPPET + PUPPET + "works 0 0;works 1 1;act 0 0 1 end;act 0 0 end;act 8 1 end;");
        fatesAre(5, 9, 1, 2, 0, 3, 16);
        fatesAre(5, 10, 1, 1, 0, 2, 16);
        fatesAre(5, 9, 2, 0, 2, 0, 16);
        fatesAre(5, 8, 2, 1, 0, 1, 14);
        fatesAre(5, 0, 2, 2, 0, 2, 14);
        fatesAre(5, 16, 1, 0, 2, 0, 18);
        fatesAre(5, 16, 40, 0, 2, 0, 18);
        is(0, "told", 3);
        is(18, "told", 5);
        is(2, "told", 4);
        // Q 0: nobody dies but as told, however long
        told("hand 1 0 40;" + HAND + "hand 1 40 0;puppet 1 1 30;works 0 0;");
        is(2, "fates", 9, 0, 39, 0);
        is(2, "fates", 9, 0, 40, 0);
        is(0, "fates", 9, 0, 40, 3);
        is(29, "fates", 9, 0, 1, 3);
        told("");
        fatesAre(5, 16, 40, 0, 0, 0, 0);
    }

    private void fatesAre(int seed, int q, int n, int... want) {
        for (int what = 0; what < 4; what++) is(want[what], "fates", seed, q, n, what);
    }

    private void refusedFates() {
        against(51, "n YEARS (1 to 40), Q (0 to 16)");
        told(HAND + PUPPET);
        for (int n : new int[] {0, 41, -1, LEAST, GREATEST}) noArgument("fates", 1, 0, n, 0);
        for (int q : new int[] {-1, 17, LEAST, GREATEST}) noArgument("fates", 1, q, 1, 0);
        for (int what : new int[] {-1, 4, LEAST, GREATEST}) noArgument("fates", 1, 0, 1, what);
        is(1, "fates", 1, 0, 1, 0);
        is(1, "fates", 1, 0, 40, 0);
        is(0, "fates", 1, 16, 1, 0);
    }

    private void spans() {
        against(52, "Of so many SEEDS (1 to 20; seed, seed and 1, ..): 0 the fewest that are ALIVE then, 1 the most, 2 by how many a HAND is.");
        told(HAND);
        // by Q 7 seeds 0, 1, 3, 6 and 8 kill him in the first YEAR
        int[] survived = {0, 0, 1, 1, 2, 3, 3, 4, 4};
        for (int many = 1; many <= 9; many++) {
            is(0, "span", 0, many, 7, 1, 0, 0);
            is(many < 3 ? 0 : 1, "span", 0, many, 7, 1, 1, 0);
            is(survived[many - 1], "span", 0, many, 7, 1, 2, 0);
        }
        is(1, "span", 4, 2, 7, 1, 0, 0);
        is(0, "span", 4, 3, 7, 1, 0, 0);
        is(20, "span", 1, 20, 0, 40, 2, 0);
        is(0, "span", 1, 20, 16, 1, 2, 0);
        // behind the greatest SEED comes the least, behind -1 comes 0
        is(1, "span", GREATEST, 2, 1, 1, 2, 0);
        is(0, "span", GREATEST, 2, 1, 1, 0, 0);
        is(1, "span", GREATEST, 2, 1, 1, 1, 0);
        is(1, "span", -1, 2, 1, 1, 2, 0);
        told(HAND.repeat(9));
        is(9, "span", 1, 20, 0, 40, 0, 8);
        is(9, "span", 1, 20, 0, 40, 1, 0);
        is(0, "span", 1, 20, 16, 1, 1, 0);
        // of seed 5 both live by Q 9, of seed 6 by 6 and 11 the second, of seed 7 both
        told(HAND + HAND);
        is(1, "span", 5, 3, 9, 1, 0, 0);
        is(2, "span", 5, 3, 9, 1, 1, 0);
        is(2, "span", 5, 3, 9, 1, 2, 0);
        is(3, "span", 5, 3, 9, 1, 2, 1);
        // not ALIVE then: dead, or not born yet
        told("hand 1 0 2;hand 1 3 0;");
        is(20, "span", 1, 20, 0, 1, 2, 0);
        is(0, "span", 1, 20, 0, 2, 2, 0);
        is(0, "span", 1, 20, 0, 2, 2, 1);
        is(20, "span", 1, 20, 0, 3, 2, 1);
        is(0, "span", 1, 20, 0, 2, 0, 0);
        is(0, "told", 3);
    }

    private void refusedSpans() {
        against(52, "(1 to 20; seed, seed and 1, ..)");
        told(HAND + HAND);
        for (int many : new int[] {0, 21, -1, LEAST, GREATEST}) noArgument("span", 1, many, 0, 1, 0, 0);
        for (int q : new int[] {-1, 17, LEAST, GREATEST}) noArgument("span", 1, 1, q, 1, 0, 0);
        for (int n : new int[] {0, 41, -1, LEAST, GREATEST}) noArgument("span", 1, 1, 0, n, 0, 0);
        for (int what : new int[] {-1, 3, LEAST, GREATEST}) noArgument("span", 1, 1, 0, 1, what, 0);

        against(52, "(IllegalArgumentException: no such HAND, also for 0, 1.)");
        for (int what = 0; what <= 2; what++) {
            for (int h : new int[] {-1, 2, 32, LEAST, GREATEST}) noArgument("span", 1, 1, 0, 1, what, h);
            is(what == 2 ? 1 : 2, "span", 1, 1, 0, 1, what, 1);
        }
        is(0, "status", 0);
        fresh();
        for (int what = 0; what <= 2; what++) noArgument("span", 1, 1, 0, 1, what, 0);
    }
}
