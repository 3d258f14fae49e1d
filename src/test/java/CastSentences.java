/** Promises 23 to 28, 46, 47 and 49: acts cast with hands. */
final class CastSentences extends Sentences {
    private static final int LEAST = Integer.MIN_VALUE;
    private static final int GREATEST = Integer.MAX_VALUE;
    private static final String HAND = "hand 1 0 0;";
    private static final String PUPPET = "puppet 1 1 9;";

    @Override
    void hold() {
        enoughStrings();
        handsAlive();
        quarrelsAndOne();
        silent();
        unlike();
        firstCast();
        manyCasts();
        shortActs();
        shortOfWhom();
        played();
        cost();
        dearest();
        both();
        bothAtOnce();
        thumbs();
        reach();
    }

    private void enoughStrings() {
        against(23, "A CAST of an ACT: each of its PUPPETS, which must have at least as many STRINGS as there are LAUGHS,");
        for (int laughs : new int[] {0, 1, 5, 9}) {
            for (int strings = 0; strings <= 10; strings++) {
                told(HAND + "puppet 1 1 " + strings + ";act " + laughs + " 0 end;");
                is(strings >= laughs ? 1 : 0, "casts", 0);
            }
        }
        told(HAND + HAND + "puppet 1 1 9;puppet 1 1 4;act 5 0 1 end;act 5 1 0 end;act 4 0 1 end;act 5 0 end;");
        is(0, "casts", 0);
        is(0, "casts", 1);
        is(2, "casts", 2);
        is(2, "casts", 3);
        answer("string", 1, 1);
        is(2, "casts", 0);
        is(2, "casts", 1);
        // the first has STRINGS, the second has not: nobody is cast at all, whatever was cast before
        told(HAND + HAND + "puppet 1 1 9;puppet 1 1 4;act 0 0 1 end;act 5 0 1 end;");
        is(2, "casts", 0);
        is(1, "cast", 0, 0);
        is(3, "thumbs", 0);
        is(3, "reach", 0);
        is(0, "casts", 1);
        is(0, "cast", 1, 0);
        is(0, "cast", 1, 1);
        is(0, "thumbs", 1);
        is(1, "played");
    }

    private void handsAlive() {
        against(23, "gets K HANDS of those ALIVE,");
        told("hand 1 0 3;hand 1 2 0;hand 1 0 0;puppet 1 1 9;puppet 1 2 9;act 0 0 end;act 0 1 end;wear 0;");
        is(2, "casts", 0);
        is(1, "casts", 1);
        is(5, "cast", 1, 1);
        answer("years", 2);
        is(3, "casts", 0);
        is(3, "casts", 1);
        answer("years", 1);
        is(2, "casts", 0);
        is(1, "casts", 1);
        is(6, "cast", 1, 1);
        answer("dies", 1);
        is(1, "casts", 0);
        is(0, "casts", 1);
        answer("dies", 2);
        is(0, "casts", 0);
        // each one and each two of nine, the others having quarrelled with it
        for (int h = 0; h < 9; h++) {
            for (int g = 0; g <= h; g++) {
                StringBuilder two = new StringBuilder(HAND.repeat(9) + "puppet 1 " + (g == h ? 1 : 2) + " 9;act 0 0 end;");
                for (int other = 0; other < 9; other++) {
                    if (other != h && other != g) two.append("quarrel ").append(other).append(" 0;");
                }
                told(two.toString());
                is(1, "casts", 0);
                is(1 << h | 1 << g, "cast", 0, 0);
                is(1 << h | 1 << g, "thumbs", 0);
                is(1, "reach", h);
            }
        }
        // it gets HANDS whoever works it, and they may work as many as they do
        told(HAND + HAND + PUPPET.repeat(5) + "works 0 0;works 1 1;works 1 2;works 1 3;works 1 4;act 0 0 end;");
        is(2, "casts", 0);
    }

    private void quarrelsAndOne() {
        against(23, "none who has quarrelled with it,");
        told(HAND + HAND + PUPPET + PUPPET + "quarrel 0 0;act 0 0 end;act 0 1 end;act 0 0 1 end;");
        is(1, "casts", 0);
        is(2, "cast", 0, 0);
        is(2, "casts", 1);
        is(1, "casts", 2);
        told(HAND + PUPPET + "quarrel 0 0;act 0 0 end;");
        is(0, "casts", 0);

        against(23, "each HAND one PUPPET at most,");
        told(HAND + PUPPET + PUPPET + "act 0 0 1 end;act 0 0 end;");
        is(0, "casts", 0);
        is(1, "casts", 1);
        told(HAND + HAND + "puppet 1 2 9;puppet 1 1 9;act 0 0 1 end;act 0 1 0 end;");
        is(0, "casts", 0);
        is(0, "casts", 1);
        told(HAND + HAND + PUPPET + PUPPET + "act 0 0 1 end;");
        is(2, "casts", 0);
    }

    private void silent() {
        against(23, "no two of all of them SILENT to one another;");
        // of one PUPPET
        told(HAND.repeat(3) + "puppet 1 2 9;act 0 0 end;silent 0 1;");
        is(2, "casts", 0);
        // of two
        told(HAND.repeat(3) + PUPPET + PUPPET + "act 0 0 1 end;act 0 0 end;silent 0 1;");
        is(4, "casts", 0);
        is(3, "casts", 1);
        // the first and the third that are given
        told(HAND.repeat(3) + PUPPET.repeat(3) + "act 0 0 1 2 end;silent 0 2;");
        is(0, "casts", 0);
        told(HAND.repeat(3) + PUPPET.repeat(3) + "act 0 0 1 2 end;");
        is(6, "casts", 0);
        told(HAND.repeat(4) + "puppet 1 2 9;puppet 1 2 9;act 0 0 1 end;silent 0 3;");
        is(0, "casts", 0);
        // the dead are silent to nobody
        told(HAND + "hand 1 0 1;" + HAND + PUPPET + PUPPET + "act 0 0 1 end;silent 0 1;");
        answer("years", 1);
        is(2, "casts", 0);
    }

    private void unlike() {
        against(23, "ways are unlike by who works what;");
        told(HAND + HAND + "puppet 1 2 9;act 0 0 end;");
        is(1, "casts", 0);
        told(HAND.repeat(3) + "puppet 1 2 9;puppet 1 1 9;act 0 0 1 end;act 0 1 0 end;");
        is(3, "casts", 0);
        is(3, "casts", 1);
        told(HAND.repeat(4) + "puppet 1 2 9;puppet 1 2 9;act 0 0 1 end;");
        is(6, "casts", 0);
    }

    private void firstCast() {
        against(24, "the first: PUPPET by PUPPET as told in the ACT the least set of HANDS (bits).");
        told(HAND.repeat(3) + PUPPET.repeat(3) + "act 0 2 0 1 end;act 0 0 1 2 end;");
        is(1, "cast", 0, 2);
        is(2, "cast", 0, 0);
        is(4, "cast", 0, 1);
        is(1, "cast", 1, 0);
        is(4, "cast", 1, 2);
        // 1 and 2 are 6, 0 and 3 are 9
        told(HAND.repeat(4) + "puppet 1 2 9;silent 0 1;silent 0 2;act 0 0 end;");
        is(6, "cast", 0, 0);
        // 0 is least, but without him puppet 1 gets nobody
        told(HAND + HAND + PUPPET + PUPPET + "quarrel 1 1;act 0 0 1 end;");
        is(2, "cast", 0, 0);
        is(1, "cast", 0, 1);
        // 0 does not speak with the only one that puppet 1 can have
        told(HAND.repeat(4) + "puppet 1 2 9;puppet 1 1 9;quarrel 0 1;quarrel 1 1;quarrel 2 1;silent 0 3;act 0 0 1 end;");
        is(6, "cast", 0, 0);
        is(8, "cast", 0, 1);

        against(24, "HANDS of a PUPPET by the first CAST of an ACT, as bits (0: it is not in it, or there is none).");
        told(HAND.repeat(9) + "puppet 1 2 9;".repeat(4) + "puppet 1 1 9;puppet 1 1 0;act 0 4 3 2 1 0 end;act 1 5 end;act 0 5 end;");
        int[] want = {384, 96, 24, 6, 1, 0};
        for (int p = 0; p < 6; p++) is(want[p], "cast", 0, p);
        for (int p = 0; p < 6; p++) is(0, "cast", 1, p);
        is(1, "cast", 2, 5);
        for (int n : new int[] {-1, 3, 32, LEAST, GREATEST}) noElement("cast", n, 0);
        for (int n : new int[] {-1, 6, 32, LEAST, GREATEST}) noElement("cast", 0, n);
    }

    private void manyCasts() {
        against(23, "CAST of an ACT: how many ways (0: none; 1,000,000 at most are counted).");
        // no ACT has more ways than these two: 9! / 4, below the bound
        told(HAND.repeat(9) + "puppet 1 2 9;puppet 1 2 9;" + PUPPET.repeat(4) + "act 0 5 4 3 2 1 0 end;act 0 0 1 end;");
        is(90720, "casts", 0);
        is(756, "casts", 1);
        told(HAND.repeat(9) + "puppet 1 2 9;" + PUPPET.repeat(5) + "act 0 0 1 2 3 4 5 end;act 0 1 2 3 4 5 end;act 0 1 end;");
        is(90720, "casts", 0);
        is(15120, "casts", 1);
        is(9, "casts", 2);
        told(HAND.repeat(9) + PUPPET.repeat(6) + "act 0 0 1 2 3 4 5 end;");
        is(60480, "casts", 0);
        told(HAND.repeat(9) + "puppet 1 2 9;".repeat(4) + PUPPET + "act 0 0 1 2 3 4 end;act 0 0 1 2 3 end;");
        is(22680, "casts", 0);
        is(22680, "casts", 1);
        told(HAND.repeat(9) + "puppet 1 2 9;".repeat(5) + "act 0 0 1 2 3 4 end;");
        is(0, "casts", 0);
        told(HAND.repeat(9) + "puppet 1 2 9;".repeat(6) + "act 0 0 1 2 3 4 5 end;");
        is(0, "casts", 0);
        told(PUPPET + "act 0 0 end;");
        is(0, "casts", 0);
        for (int n : new int[] {-1, 1, 32, LEAST, GREATEST}) noElement("casts", n);
    }

    private void shortActs() {
        against(25, "SHORT of an ACT: the least set of its PUPPETS (the fewest; of alike ones the least bits)");
        // 0 and 1 together are short, too, and have less bits, but 2 is short alone
        told(HAND + HAND + "puppet 1 1 9;puppet 1 2 9;puppet 1 2 9;quarrel 0 2;act 0 0 1 2 end;act 0 2 1 0 end;act 0 1 0 end;");
        is(4, "lacking", 0);
        is(4, "lacking", 1);
        is(3, "lacking", 2);
        // of 0 1, 0 2 and 1 2 the least bits, whatever the order in the ACT
        told(HAND.repeat(3) + "puppet 1 2 9;".repeat(3) + "act 0 2 1 0 end;act 0 2 1 end;act 0 2 end;");
        is(3, "lacking", 0);
        is(6, "lacking", 1);
        is(0, "lacking", 2);
        // all six, and five of six
        told(HAND.repeat(5) + PUPPET.repeat(8) + "act 0 7 5 4 3 2 1 end;");
        is(0xbe, "lacking", 0);
        told(HAND.repeat(9) + "puppet 1 2 9;".repeat(8) + "act 0 7 5 4 3 2 1 end;");
        is(0x3e, "lacking", 0);

        against(25, "SHORT, as bits of PUPPETS; 0: hands suffice.");
        told(HAND.repeat(9) + "puppet 1 2 9;".repeat(3) + PUPPET.repeat(3) + "act 0 0 1 2 3 4 5 end;");
        is(0, "lacking", 0);
        answer("dies", 4);
        is(63, "lacking", 0);
        told(PUPPET + PUPPET + "act 0 1 0 end;act 0 1 end;");
        is(1, "lacking", 0);
        is(2, "lacking", 1);
        for (int n : new int[] {-1, 2, 32, LEAST, GREATEST}) noElement("lacking", n);
    }

    private void shortOfWhom() {
        against(25, "that together need more HANDS than there are ALIVE who have not quarrelled with all of them");
        // one HAND is enough for one, not for two; who has quarrelled with one of two still counts for both
        told(HAND + PUPPET + PUPPET + "act 0 0 1 end;act 0 0 end;");
        is(3, "lacking", 0);
        is(0, "lacking", 1);
        told(HAND + HAND + PUPPET + PUPPET + "quarrel 0 0;act 0 0 1 end;act 0 0 end;");
        is(0, "lacking", 0);
        told(HAND + HAND + PUPPET + PUPPET + "quarrel 0 0;quarrel 0 1;act 0 0 1 end;act 0 0 end;act 0 1 end;");
        is(3, "lacking", 0);
        is(0, "lacking", 1);
        is(0, "lacking", 2);
        told(HAND + "hand 1 0 2;hand 1 1 0;puppet 1 2 9;act 0 0 end;");
        is(0, "lacking", 0);
        answer("dies", 0);
        is(1, "lacking", 0);
        answer("years", 1);
        is(0, "lacking", 0);
        answer("years", 1);
        is(1, "lacking", 0);

        against(25, "(silence and STRINGS not asked).");
        told(HAND + HAND + "puppet 1 2 0;silent 0 1;act 9 0 end;");
        is(0, "lacking", 0);
        is(0, "casts", 0);
    }

    private void played() {
        against(26, "PLAYED: ACTS that can be CAST.");
        told(HAND + HAND + "puppet 1 1 5;puppet 1 2 5;act 5 0 end;act 6 0 end;act 0 0 1 end;act 5 1 end;act 9 1 end;act 0 0 end;");
        is(0x29, "played");
        answer("string", 1, 4);
        is(0x39, "played");

        against(26, "PLAYED now, as bits.");
        answer("dies", 0);
        is(0x21, "played");
        answer("dies", 1);
        is(0, "played");
        told(HAND + PUPPET + "act 0 0 end;".repeat(6));
        is(63, "played");
        told(HAND + PUPPET);
        is(0, "played");
    }

    private void cost() {
        String some = HAND.repeat(3) + "hand 1 9 0;" + PUPPET + "puppet 1 2 9;quarrel 0 1;act 0 0 end;act 0 1 end;act 0 1 0 end;act 9 0 end;act 0 1 end;";
        against(27, "COST of a HAND: how many ACTS can be CAST now, and could not, were he dead.");
        told(some);
        // without 0 the acts of puppet 1 alone stay; without 1 or 2 puppet 1 has one of two
        is(31, "played");
        is(1, "cost", 0);
        is(3, "cost", 1);
        is(3, "cost", 2);
        is(0, "cost", 3);

        against(27, "COST.");
        is(4 - 1, "told", 4);
        answer("dies", 1);
        is(0, "cost", 1);
        is(0, "cost", 0);
        answer("dies", 0);
        is(2, "cost", 2);
        answer("dies", 2);
        is(0, "cost", 2);
        told(HAND + PUPPET + "act 0 0 end;".repeat(6));
        is(6, "cost", 0);
        for (int n : new int[] {-1, 1, 32, LEAST, GREATEST}) noElement("cost", n);
    }

    private void dearest() {
        against(28, "The HAND of the greatest COST (of these the first; NONE: nobody is ALIVE).");
        told("hand 1 9 0;" + HAND.repeat(3) + PUPPET + "puppet 1 2 9;quarrel 1 1;act 0 0 end;act 0 1 end;act 0 1 0 end;");
        is(1, "cost", 1);
        is(2, "cost", 2);
        is(2, "cost", 3);
        is(2, "dearest");
        answer("dies", 2);
        is(0, "cost", 3);
        is(1, "dearest");
        answer("dies", 1);
        is(3, "dearest");
        answer("dies", 3);
        is(NONE, "dearest");
        answer("years", 9);
        is(0, "dearest");
        told(HAND.repeat(9));
        is(0, "dearest");
        told("hand 1 1 0;");
        is(NONE, "dearest");
        told("");
        is(NONE, "dearest");
    }

    private void both() {
        against(46, "BOTH of two ACTS: whether they can be CAST at once,");
        told(HAND.repeat(3) + PUPPET + PUPPET + "puppet 1 2 9;act 0 0 end;act 0 1 end;act 0 2 end;act 0 1 0 end;silent 0 1;");
        is(1, "both", 0, 1);
        is(1, "both", 1, 0);
        is(0, "both", 0, 2);
        is(0, "both", 2, 0);
        // each alone can be CAST, together they need four
        is(15, "played");
        is(0, "both", 2, 3);
        told(HAND + HAND + PUPPET + PUPPET + "silent 0 1;act 0 0 end;act 0 1 end;");
        is(3, "played");
        is(0, "both", 0, 1);

        // one way is enough
        told(HAND + HAND + PUPPET + PUPPET + "quarrel 0 0;act 0 0 end;act 0 1 end;");
        is(1, "both", 0, 1);
        is(1, "both", 1, 0);
        told(HAND + HAND + PUPPET + PUPPET + "quarrel 0 0;quarrel 1 1;act 0 0 end;act 0 1 end;");
        is(1, "both", 0, 1);
        answer("dies", 0);
        is(0, "both", 0, 1);

        against(46, "BOTH.");
        told(HAND.repeat(9) + PUPPET.repeat(7) + "puppet 1 2 9;act 0 0 1 2 3 4 5 end;act 0 6 7 end;");
        is(1, "both", 0, 1);
        answer("dies", 3);
        is(0, "both", 0, 1);
        told(HAND.repeat(9) + PUPPET.repeat(6) + "puppet 1 2 9;puppet 1 2 9;act 0 0 1 2 3 4 5 end;act 0 6 7 end;");
        is(0, "both", 0, 1);
        told(HAND.repeat(9) + "puppet 1 2 9;".repeat(8) + "act 0 0 1 2 3 4 5 end;act 0 6 7 end;");
        is(0, "both", 0, 1);
    }

    private void bothAtOnce() {
        against(46, "as one ACT of all their PUPPETS (none in both)");
        told(HAND.repeat(3) + PUPPET + PUPPET + "act 0 0 end;act 0 0 1 end;act 0 1 end;act 0 0 end;");
        is(0, "both", 0, 1);
        is(0, "both", 1, 0);
        is(0, "both", 1, 2);
        is(0, "both", 0, 3);
        is(1, "both", 0, 2);

        against(46, "with as many LAUGHS as each has for its own.");
        told(HAND.repeat(3) + "puppet 1 1 3;puppet 1 1 9;act 3 0 end;act 9 1 end;act 4 0 end;act 0 1 end;");
        is(1, "both", 0, 1);
        is(1, "both", 1, 0);
        is(0, "both", 1, 2);
        is(0, "both", 2, 3);
        is(0, "both", 3, 2);
        is(1, "both", 0, 3);

        against(46, "IllegalArgumentException: one ACT.");
        for (int a = 0; a < 4; a++) noArgument("both", a, a);
        for (int n : new int[] {-1, 4, 32, LEAST, GREATEST}) {
            noElement("both", n, 0);
            noElement("both", 0, n);
            noElement("both", n, n);
        }
    }

    private void thumbs() {
        against(47, "THUMBS of an ACT: HANDS that are in each CAST of it.");
        told(HAND.repeat(3) + "puppet 1 2 9;puppet 1 1 9;act 0 0 1 end;act 0 0 end;act 0 1 end;quarrel 0 1;quarrel 1 1;");
        is(7, "thumbs", 0);
        is(0, "thumbs", 1);
        is(4, "thumbs", 2);
        told(HAND.repeat(3) + "puppet 1 2 9;puppet 1 1 9;act 0 0 end;silent 0 1;");
        is(4, "thumbs", 0);

        against(47, "THUMBS, as bits (0: there is no CAST).");
        told(HAND.repeat(9) + "puppet 1 2 9;".repeat(4) + "puppet 1 1 9;act 0 4 3 2 1 0 end;act 0 0 1 2 3 end;act 0 4 end;");
        is(511, "thumbs", 0);
        is(0, "thumbs", 1);
        answer("dies", 0);
        is(0, "thumbs", 0);
        is(510, "thumbs", 1);
        told("puppet 1 1 0;act 0 0 end;act 1 0 end;" + HAND);
        is(1, "thumbs", 0);
        is(0, "thumbs", 1);
        for (int n : new int[] {-1, 2, 32, LEAST, GREATEST}) noElement("thumbs", n);
    }

    private void reach() {
        against(49, "REACH of a HAND: PUPPETS that he works in some CAST of some ACT.");
        told(HAND + HAND + PUPPET + PUPPET + "puppet 1 1 0;puppet 1 1 9;quarrel 1 1;act 0 0 1 end;act 1 2 end;");
        // 0 is needed for puppet 1; no ACT has puppet 3, and 2 has no STRINGS
        is(2, "reach", 0);
        is(1, "reach", 1);
        answer("string", 2, 1);
        is(6, "reach", 0);
        is(5, "reach", 1);

        // 1 can't have puppet 0, so 0 never has puppet 1
        told(HAND + HAND + PUPPET + PUPPET + "quarrel 1 0;act 0 0 1 end;");
        is(1, "reach", 0);
        is(2, "reach", 1);
        // an ACT that can't be CAST for the want of one PUPPET's STRINGS gives nobody to the others
        told(HAND + HAND + PUPPET + "puppet 1 1 0;" + PUPPET + "act 0 0 end;act 1 2 1 end;");
        is(1, "reach", 0);

        against(49, "REACH, as bits.");
        told(HAND + "hand 1 2 3;" + PUPPET.repeat(8) + "act 0 0 end;act 0 7 end;act 0 6 end;act 0 0 1 end;act 0 5 end;");
        is(0xe1, "reach", 0);
        is(0, "reach", 1);
        answer("years", 2);
        is(0xe3, "reach", 0);
        is(0xe3, "reach", 1);
        answer("years", 1);
        is(0, "reach", 1);
        is(0xe1, "reach", 0);
        answer("dies", 0);
        is(0, "reach", 0);
        for (int n : new int[] {-1, 2, 32, LEAST, GREATEST}) noElement("reach", n);
    }
}
