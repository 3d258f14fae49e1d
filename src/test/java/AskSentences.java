/** Promises 29 to 45, 48 and 50: what is asked of puppets, books, nights, strings, debts and heirs. */
final class AskSentences extends Sentences {
    private static final int LEAST = Integer.MIN_VALUE;
    private static final int GREATEST = Integer.MAX_VALUE;
    private static final String HAND = "hand 1 0 0;";
    private static final String PUPPET = "puppet 1 1 9;";

    @Override
    void hold() {
        lies();
        dropped();
        right();
        limps();
        nights();
        night();
        fair();
        claims();
        parts();
        levels();
        debts();
        heirs();
        orphans();
        idle();
        practise();
        mute();
        slack();
        fades();
        firsts();
        speaks();
    }

    private void lies() {
        against(29, "A PUPPET dropped by a HAND LIES as its FALL and 3 times his LIMP, and its STRINGS, by 16 what is left.");
        told("hand 0 0 0;hand 1 0 0;hand 9 0 0;puppet 0 1 0;puppet 15 1 30;puppet 10 1 2;puppet 10 1 3;puppet 13 1 0;");
        is(0, "lies", 0, 0);
        is(3, "lies", 0, 1);
        is(27 - 16, "lies", 0, 2);
        is(72 - 64, "lies", 1, 2);
        is(45 - 32, "lies", 1, 0);
        is(15, "lies", 2, 1);
        is(0, "lies", 3, 1);
        is(0, "lies", 4, 1);
        is(13, "lies", 4, 0);

        against(29, "As a PUPPET LIES, dropped by a HAND (whoever he is).");
        told("hand 2 0 0;hand 3 9 0;hand 4 0 0;puppet 1 1 5;quarrel 2 0;works 0 0;");
        is(12, "lies", 0, 0);
        is(15, "lies", 0, 1);
        is(2, "lies", 0, 2);
        answer("years", 1);
        answer("dies", 2);
        is(11, "lies", 0, 0);
        is(14, "lies", 0, 1);
        is(1, "lies", 0, 2);
        for (int n : new int[] {-1, 1, 32, LEAST, GREATEST}) noElement("lies", n, 0);
        for (int n : new int[] {-1, 3, 32, LEAST, GREATEST}) noElement("lies", 0, n);
    }

    private void dropped() {
        against(30, "DROPPED: who of those ALIVE could have dropped it as it lies.");
        told("hand 2 0 0;hand 2 1 0;hand 3 0 0;hand 2 0 2;puppet 1 1 5;quarrel 3 0;wear 0;");
        is(9, "dropped", 0, 12);
        is(4, "dropped", 0, 15);
        is(0, "dropped", 0, 11);
        answer("years", 1);
        is(11, "dropped", 0, 12);
        answer("years", 1);
        is(3, "dropped", 0, 12);
        answer("string", 0, 4);
        is(3, "dropped", 0, 0);
        is(0, "dropped", 0, 12);
        is(4, "dropped", 0, 3);

        against(30, "DROPPED, as it lies (0 to 15), as bits.");
        told("hand 5 0 0;".repeat(9) + "puppet 0 1 0;puppet 1 1 0;");
        is(511, "dropped", 0, 15);
        is(511, "dropped", 1, 0);
        is(0, "dropped", 0, 0);
        is(0, "dropped", 1, 15);
        for (int n : new int[] {-1, 16, 31, LEAST, GREATEST}) noArgument("dropped", 0, n);
        for (int n : new int[] {-1, 2, 32, LEAST, GREATEST}) noElement("dropped", n, 0);
        noElement("dropped", 2, 16);
    }

    private void right() {
        against(31, "How many lines of the BOOK are right, from the first on (from YEAR 0 on, as told).");
        // puppet 1 chooses 0 in YEAR 1; hand 1 dies in YEAR 2 and puppet 0 chooses 2
        told("hand 5 0 0;hand 3 0 2;hand 6 2 0;" + PUPPET + PUPPET + "works 1 0;");
        rightIs(0, "");
        rightIs(1, "1 0 1;");
        rightIs(0, "1 0 0;");
        rightIs(0, "2 0 1;");
        rightIs(1, "2 0 2;");
        rightIs(3, "60 0 2;1 0 1;60 1 0;");
        rightIs(1, "1 1 0;1 0 2;2 0 2;");
        rightIs(2, "1 1 0;1 1 0;1 1 1;1 1 0;");
        rightIs(0, "1 0 2;1 1 0;2 0 2;");
        rightIs(12, "1 1 0;".repeat(12));
        rightIs(11, "1 1 0;".repeat(11) + "1 1 1;");
        // what has gone by since, and was done by hand, does not count
        answer("dies", 0);
        answer("dies", 1);
        answer("string", 0, 30);
        is(5, "years", 5);
        rightIs(2, "60 0 2;1 0 1;1 1 1;");
        is(5, "told", 3);
        // by the LAW that holds
        law("0-limp");
        rightIs(1, "2 0 0;2 0 2;");
        // the STRINGS as told
        told("hand 1 0 0;hand 2 0 1;hand 3 0 0;puppet 1 1 9;works 1 0;");
        law("number*(strings%2)");
        answer("string", 0, 1);
        rightIs(1, "1 0 2;");
    }

    private void rightIs(int want, String lines) {
        book(lines);
        is(want, "right");
    }

    private void limps() {
        against(32, "LIMPS of a HAND: LIMP 0 to 9 by which, had he had it from the beginning on, all lines of the BOOK would be right.");
        told("hand 5 0 0;hand 3 0 2;hand 6 2 0;" + PUPPET + PUPPET + "works 1 0;");
        book("2 0 2;");
        // 2 * L of hand 2 against 10 - 3 of hand 0
        is(0x3f0, "limps", 2);
        // 2 * L - 3 of hand 0 against 12; puppet 1 chooses him by less than 0, too (hand 1: 6 - 3)
        is(0xff, "limps", 0);
        is(0x3ff, "limps", 1);
        is(6, "hand", 2, 0);
        book("2 0 2;1 1 0;");
        is(0xfc, "limps", 0);
        book("2 0 2;2 0 0;");
        is(0, "limps", 2);
        is(0, "limps", 0);
        // each LIMP alone
        for (int limp = 0; limp <= 9; limp++) {
            told("hand 4 0 0;hand 1 1 0;" + PUPPET);
            // 0 for hand 0, more than that for hand 1 by this LIMP alone
            law("number*(1-2*(limp-" + limp + ")*(limp-" + limp + "))");
            book("1 0 1;");
            is(1 << limp, "limps", 1);
        }

        against(32, "LIMPS, as bits.");
        told(HAND + PUPPET);
        is(0x3ff, "limps", 0);
        book("1 0 0;");
        is(0x3ff, "limps", 0);
        // from the beginning on: the LIMP that was told has no part in it, nor has what was done by hand
        told("hand 0 0 0;hand 5 0 0;" + PUPPET);
        answer("dies", 0);
        answer("years", 2);
        book("1 0 0;");
        is(0x3e0, "limps", 0);
        for (int n : new int[] {-1, 2, 32, LEAST, GREATEST}) noElement("limps", n);
    }

    private void nights() {
        against(33, "NIGHTS: the fewest nights for all who are ALIVE, each on one, no two who are SILENT to one another on the same.");
        told(HAND.repeat(9));
        is(1, "nights");
        told(HAND.repeat(9) + "silent 0 8;");
        is(2, "nights");
        told(HAND.repeat(5) + "silent 0 1;silent 1 2;silent 2 3;silent 3 4;");
        is(2, "nights");
        told(HAND.repeat(5) + "silent 0 1;silent 1 2;silent 2 3;silent 3 4;silent 4 0;");
        is(3, "nights");
        told(HAND.repeat(9) + everyone());
        is(9, "nights");
        answer("dies", 4);
        is(8, "nights");

        against(33, "NIGHTS (0: nobody is ALIVE).");
        told("hand 1 1 2;");
        is(0, "nights");
        answer("years", 1);
        is(1, "nights");
        answer("years", 1);
        is(0, "nights");
        told("");
        is(0, "nights");
        told("hand 1 1 0;" + HAND + "silent 0 1;");
        is(1, "nights");
        answer("years", 1);
        is(2, "nights");
    }

    /** Nobody speaks with anybody of nine. */
    private static String everyone() {
        StringBuilder all = new StringBuilder();
        for (int h = 0; h < 9; h++) {
            for (int g = 0; g < h; g++) all.append("silent").append(h).append(' ').append(g).append(';');
        }
        return all.toString();
    }

    private void night() {
        against(34, "On which night a HAND is, each by number on the first by which no more are needed (NONE: not ALIVE).");
        told("hand 1 1 0;" + HAND.repeat(3) + "silent 1 2;");
        nightsAre(NONE, 0, 1, 0);
        answer("years", 1);
        nightsAre(0, 0, 1, 0);
        answer("dies", 1);
        nightsAre(0, NONE, 0, 0);
        // on the first night 1 would make a third one needed
        told(HAND.repeat(4) + "silent 0 2;silent 2 3;silent 3 1;");
        nightsAre(0, 1, 1, 0);
        told(HAND.repeat(6) + "silent 0 3;silent 0 5;silent 1 2;silent 1 4;silent 2 3;silent 4 5;");
        is(2, "nights");
        nightsAre(0, 1, 0, 1, 0, 1);
        told(HAND.repeat(9) + everyone());
        nightsAre(0, 1, 2, 3, 4, 5, 6, 7, 8);
        for (int n : new int[] {-1, 9, 32, LEAST, GREATEST}) noElement("night", n);
    }

    private void nightsAre(int... want) {
        for (int h = 0; h < want.length; h++) is(want[h], "night", h);
    }

    private void fair() {
        against(35, "FAIR of told ACTS: how many STRINGS are to be added in all, so that each PUPPET has as many as there are LAUGHS in all told ACTS"
            + " it is in, together.");
        told("puppet 1 1 10;puppet 1 1 6;puppet 1 1 3;puppet 1 1 0;act 9 0 1 end;act 5 2 end;act 4 0 2 end;");
        int[] want = {0, 3, 2, 5, 1, 3 + 3 + 1, 6, 3 + 3 + 6};
        for (int acts = 0; acts < 8; acts++) is(want[acts], "fair", acts);
        answer("string", 1, 2);
        is(1, "fair", 1);
        answer("string", 1, 1);
        is(0, "fair", 1);
        is(9, "puppet", 1, 2);
        answer("string", 1, 1);
        is(0, "fair", 1);
        told("puppet 1 1 30;puppet 1 1 0;" + "act 9 0 1 end;".repeat(6));
        is(24 + 54, "fair", 63);
        is(9, "fair", 1);

        against(35, "FAIR of told ACTS (bits). IllegalArgumentException: bits of no ACTS.");
        is(0, "fair", 0);
        for (int bits : new int[] {64, 65, 127, 128, -1, LEAST, GREATEST}) noArgument("fair", bits);
        told(PUPPET + "act 9 0 end;");
        is(0, "fair", 1);
        for (int bits : new int[] {2, 3, -1, LEAST}) noArgument("fair", bits);
        told(PUPPET);
        is(0, "fair", 0);
        noArgument("fair", 1);
    }

    private void claims() {
        against(36, "CLAIMS on E STRINGS: each HAND that is ALIVE claims as many as the PUPPETS it works have together;");
        told(HAND.repeat(3) + "hand 1 1 0;hand 1 0 1;puppet 1 2 10;puppet 1 1 6;puppet 1 1 3;works 0 0;works 1 0;works 1 1;works 4 2;wear 0;");
        getsOf(999, 0, 10, 16, 0, 0, 3);
        getsOf(999, 1, 10, 16, 0, 0, 3);
        answer("string", 1, 5);
        getsOf(999, 0, 10, 21, 0, 0, 3);
        answer("dies", 4);
        getsOf(999, 0, 10, 21, 0, 0, 0);
        answer("dies", 1);
        getsOf(10, 0, 10, 0, 0, 0, 0);
        getsOf(9, 1, 9, 0, 0, 0, 0);

        against(36, "What a HAND gets of E (0 to 999) STRINGS: by parts (how 0), levelled (1).");
        is(0, "gets", 0, 0, 0);
        is(0, "gets", 0, 0, 1);
        for (int e : new int[] {-1, 1000, LEAST, GREATEST}) {
            noArgument("gets", 0, e, 0);
            noArgument("gets", 0, e, 1);
        }
        for (int how : new int[] {-1, 2, LEAST, GREATEST}) noArgument("gets", 0, 1, how);
        for (int n : new int[] {-1, 5, 32, LEAST, GREATEST}) noElement("gets", n, 1, 0);
        noElement("gets", 5, 1000, 2);
    }

    private void getsOf(int e, int how, int... want) {
        for (int h = 0; h < want.length; h++) is(want[h], "gets", h, e, how);
    }

    private void parts() {
        against(36, "by parts: E times his claim by all claims (cut; all get their claims, if E is no less than these);");
        told(HAND.repeat(3) + "puppet 1 1 10;puppet 1 1 9;puppet 1 1 6;works 0 0;works 1 1;works 2 2;");
        getsOf(0, 0, 0, 0, 0);
        getsOf(1, 0, 0, 0, 0);
        getsOf(5, 0, 2, 1, 1);
        getsOf(10, 0, 4, 3, 2);
        getsOf(24, 0, 9, 8, 5);
        getsOf(25, 0, 10, 9, 6);
        getsOf(26, 0, 10, 9, 6);
        getsOf(999, 0, 10, 9, 6);
        // the greatest claims there are, and none at all
        String both = HAND + HAND + "puppet 1 2 30;".repeat(8);
        for (int p = 0; p < 8; p++) both += "works 0 " + p + ";works 1 " + p + ";";
        told(both);
        getsOf(479, 0, 239, 239);
        getsOf(480, 0, 240, 240);
        getsOf(999, 0, 240, 240);
        told(HAND + HAND + "puppet 1 1 0;works 0 0;");
        getsOf(0, 0, 0, 0);
        getsOf(999, 0, 0, 0);
    }

    private void levels() {
        against(36, "levelled: as much as he claims, but no more than a bound, the greatest by which no more than E is given.");
        told(HAND.repeat(3) + "puppet 1 1 10;puppet 1 1 9;puppet 1 1 6;works 0 0;works 1 1;works 2 2;");
        getsOf(0, 1, 0, 0, 0);
        getsOf(2, 1, 0, 0, 0);
        getsOf(3, 1, 1, 1, 1);
        getsOf(5, 1, 1, 1, 1);
        getsOf(17, 1, 5, 5, 5);
        getsOf(18, 1, 6, 6, 6);
        getsOf(19, 1, 6, 6, 6);
        getsOf(20, 1, 7, 7, 6);
        getsOf(23, 1, 8, 8, 6);
        getsOf(24, 1, 9, 9, 6);
        getsOf(25, 1, 10, 9, 6);
        getsOf(999, 1, 10, 9, 6);
        told(HAND + HAND + "puppet 1 1 30;puppet 1 1 1;works 0 0;works 1 1;");
        getsOf(1, 1, 0, 0);
        getsOf(2, 1, 1, 1);
        getsOf(3, 1, 2, 1);
        getsOf(30, 1, 29, 1);
        getsOf(31, 1, 30, 1);
        told(HAND + PUPPET + "works 0 0;");
        getsOf(8, 1, 8);
        getsOf(9, 1, 9);
    }

    private void debts() {
        against(37, "What one owes the other one.");
        told("hand 1 0 1;" + HAND + "hand 1 3 0;owes 0 1 9;owes 1 0 4;owes 0 1 90;owes 2 1 1;");
        is(99, "owes", 0, 1);
        is(4, "owes", 1, 0);
        is(1, "owes", 2, 1);
        is(0, "owes", 1, 2);
        for (int h = 0; h < 3; h++) is(0, "owes", h, h);
        for (int n : new int[] {-1, 3, 32, LEAST, GREATEST}) {
            noElement("owes", n, 0);
            noElement("owes", 0, n);
        }

        against(38, "NET of a HAND: what is owed to him less what he owes (dead or not).");
        is(4 - 99, "net", 0);
        is(99 + 1 - 4, "net", 1);
        is(-1, "net", 2);
        answer("years", 1);
        answer("dies", 1);
        is(4 - 99, "net", 0);
        is(99 + 1 - 4, "net", 1);

        against(38, "NET.");
        StringBuilder great = new StringBuilder(HAND.repeat(5));
        for (int h = 1; h < 5; h++) great.append(("owes " + h + " 0 99;").repeat(11));
        told(great.toString());
        is(3996, "net", 0);
        is(-999, "net", 4);
        told(HAND);
        is(0, "net", 0);
        for (int n : new int[] {-1, 1, 32, LEAST, GREATEST}) noElement("net", n);
    }

    private void heirs() {
        against(39, "HEIR: whom a PUPPET would choose next, were one of its HANDS to die now.");
        told("hand 1 0 0;hand 1 0 0;hand 2 0 0;hand 9 1 0;puppet 1 1 9;puppet 1 2 9;works 0 0;works 0 1;works 1 1;");
        is(2, "heir", 0, 0);
        is(2, "heir", 1, 0);
        is(2, "heir", 1, 1);
        // kin is reckoned without him: the other hand of puppet 1 works nothing more with anybody
        law("kin*9+limp");
        is(1, "chooses", 0);
        is(2, "heir", 0, 0);
        is(4 - 1, "told", 4);
        is(1, "puppet", 0, 3);
        is(NONE, "puppet", 0, 5);
        answer("years", 1);
        is(3, "heir", 0, 0);

        against(39, "HEIR; NONE: nobody, or he does not work it.");
        is(NONE, "heir", 0, 1);
        is(NONE, "heir", 0, 3);
        told(HAND + HAND + PUPPET + PUPPET + "works 0 0;quarrel 1 0;");
        is(NONE, "heir", 0, 0);
        is(NONE, "heir", 0, 1);
        is(NONE, "heir", 1, 0);
        // he is dead then, and no heir of his own
        told(HAND + PUPPET + "works 0 0;");
        is(NONE, "heir", 0, 0);
        for (int n : new int[] {-1, 1, 32, LEAST, GREATEST}) {
            noElement("heir", n, 0);
            noElement("heir", 0, n);
        }
    }

    private void orphans() {
        against(40, "ORPHANS: PUPPETS that lack HANDS.");
        told(HAND + "hand 1 0 2;puppet 1 2 9;puppet 1 2 9;puppet 1 1 9;puppet 1 1 9;works 0 0;works 1 0;works 0 1;works 0 2;quarrel 0 3;quarrel 1 3;");
        is(10, "orphans");
        answer("years", 1);
        is(8, "orphans");
        answer("years", 1);
        is(11, "orphans");

        against(40, "ORPHANS, as bits.");
        told(PUPPET.repeat(8));
        is(255, "orphans");
        told("");
        is(0, "orphans");
        told(HAND + PUPPET + "works 0 0;");
        is(0, "orphans");
        answer("dies", 0);
        is(1, "orphans");
    }

    private void idle() {
        against(41, "IDLE: who is ALIVE and works nothing.");
        told("hand 1 0 0;hand 1 0 1;hand 1 1 0;hand 1 0 0;puppet 1 2 9;works 0 0;quarrel 1 0;quarrel 2 0;quarrel 3 0;");
        is(10, "idle");
        answer("years", 1);
        is(12, "idle");
        answer("dies", 0);
        is(12, "idle");

        against(41, "IDLE, as bits.");
        told(HAND.repeat(9));
        is(511, "idle");
        told("hand 1 1 0;");
        is(0, "idle");
        told(HAND + PUPPET + "works 0 0;");
        is(0, "idle");
    }

    private void practise() {
        against(42, "PRACTISE: the least LIMP (0 to 9) by which a HAND would be whom a PUPPET chooses now (others as they are).");
        told("hand 5 0 0;hand 3 0 0;hand 8 0 0;" + PUPPET + "quarrel 1 0;");
        // 2 * L against 16; an even score goes to the lesser number
        is(8, "practise", 0, 0);
        is(6, "practise", 2, 0);
        is(5, "hand", 0, 0);
        is(8, "hand", 2, 0);
        law("limp*(5-number)");
        // 5 * L against 24, 3 * L against 25
        is(5, "practise", 0, 0);
        is(9, "practise", 2, 0);
        law("0-limp");
        is(0, "practise", 0, 0);
        is(0, "practise", 2, 0);
        // nine is the last that is tried
        told("hand 8 0 0;hand 9 0 0;hand 0 0 0;" + PUPPET);
        is(9, "practise", 0, 0);
        is(NONE, "practise", 2, 0);

        against(42, "PRACTISE; NONE: by none.");
        told(HAND + HAND + "hand 1 1 0;" + HAND + PUPPET.repeat(3) + "puppet 1 2 9;works 0 0;works 0 1;works 0 2;quarrel 1 3;");
        is(NONE, "practise", 0, 3);
        is(NONE, "practise", 1, 3);
        is(NONE, "practise", 2, 3);
        is(0, "practise", 3, 3);
        is(NONE, "practise", 0, 0);
        answer("dies", 3);
        is(NONE, "practise", 3, 3);
        answer("years", 1);
        is(0, "practise", 1, 0);
        is(NONE, "practise", 2, 3);
        for (int n : new int[] {-1, 4, 32, LEAST, GREATEST}) {
            noElement("practise", n, 0);
            noElement("practise", 0, n);
        }
    }

    private void mute() {
        against(43, "MUTE: PUPPETS of whose HANDS two are SILENT to one another.");
        told(HAND.repeat(3) + "puppet 1 2 9;puppet 1 2 9;puppet 1 1 9;puppet 1 2 9;works 0 0;works 2 0;works 0 1;works 1 1;works 2 2;works 0 3;"
            + "silent 2 0;");
        is(1, "mute");
        is(1, "give", 1, 1, 2);
        is(3, "mute");

        against(43, "MUTE, as bits.");
        answer("dies", 0);
        is(0, "mute");
        StringBuilder all = new StringBuilder(HAND + HAND + "puppet 1 2 9;".repeat(8) + "silent 0 1;");
        for (int p = 0; p < 8; p++) all.append("works 0 ").append(p).append(";works 1 ").append(p).append(';');
        told(all.toString());
        is(255, "mute");
        told("");
        is(0, "mute");
    }

    private void slack() {
        against(44, "SLACK: PUPPETS with fewer STRINGS than told.");
        told(HAND + "puppet 1 1 10;puppet 1 1 6;puppet 1 2 0;puppet 1 1 30;works 0 0;works 0 1;works 0 3;");
        int[][] want = {{0, 0}, {1, 4}, {6, 4}, {7, 6}, {10, 6}, {11, 7}, {30, 7}, {31, 15}};
        for (int[] w : want) is(w[1], "slack", w[0]);
        answer("years", 1);
        is(6, "slack", 6);
        is(7, "slack", 10);
        is(15, "slack", 30);

        against(44, "SLACK by n (0 to 31), as bits.");
        is(0, "slack", 0);
        is(15, "slack", 31);
        for (int n : new int[] {-1, 32, LEAST, GREATEST}) noArgument("slack", n);
    }

    private void fades() {
        against(45, "FADES: behind which of the next 60 YEARS a PUPPET has no STRINGS (0: it has none now).");
        told(HAND + "puppet 1 1 1;puppet 1 1 0;puppet 1 1 30;puppet 1 2 1;works 0 0;works 0 1;works 0 2;works 0 3;");
        is(1, "fades", 0);
        is(0, "fades", 1);
        is(30, "fades", 2);
        is(NONE, "fades", 3);
        answer("years", 1);
        is(0, "fades", 0);
        is(30, "fades", 2);
        answer("years", 28);
        is(30, "fades", 2);
        answer("years", 1);
        is(0, "fades", 2);
        answer("string", 2, 1);
        is(31, "fades", 2);

        against(45, "FADES: the YEAR; NONE: behind none.");
        told(HAND + "puppet 1 1 9;works 0 0;wear 0;");
        is(NONE, "fades", 0);
        told(HAND + "puppet 1 1 9;works 0 0;wear 9;");
        is(1, "fades", 0);
        told(HAND + "puppet 1 1 10;works 0 0;wear 9;");
        is(2, "fades", 0);
        told("hand 1 0 3;puppet 1 1 3;works 0 0;");
        is(NONE, "fades", 0);
        told("hand 1 0 3;puppet 1 1 2;works 0 0;");
        is(2, "fades", 0);
        for (int n : new int[] {-1, 1, 32, LEAST, GREATEST}) noElement("fades", n);
    }

    private void firsts() {
        against(48, "ELDEST: who is ALIVE and oldest, of these the first.");
        told("hand 1 3 0;hand 1 1 4;hand 1 1 0;hand 1 0 2;");
        is(3, "first", 0);
        answer("years", 1);
        is(3, "first", 0);
        answer("years", 1);
        is(1, "first", 0);
        answer("years", 2);
        is(2, "first", 0);
        answer("dies", 2);
        is(0, "first", 0);

        against(48, "RICHEST: the HAND of the greatest NET, of these the first.");
        told("hand 1 3 0;hand 1 1 9;hand 1 1 0;hand 1 0 2;owes 0 1 5;owes 3 2 5;");
        is(1, "first", 1);
        answer("years", 9);
        is(1, "first", 1);
        told(HAND.repeat(3) + "owes 0 1 5;owes 1 2 6;");
        is(2, "first", 1);
        told(HAND.repeat(3));
        is(0, "first", 1);

        against(48, "ELDEST (what 0), RICHEST (1); NONE: nobody.");
        told("hand 1 1 0;");
        is(NONE, "first", 0);
        is(0, "first", 1);
        told("hand 1 0 1;");
        answer("years", 1);
        is(NONE, "first", 0);
        is(0, "first", 1);
        told("");
        is(NONE, "first", 0);
        is(NONE, "first", 1);
        for (int n : new int[] {-1, 2, LEAST, GREATEST}) noArgument("first", n);
    }

    private void speaks() {
        against(50, "SPEAKS: how many pairs of those ALIVE are not SILENT.");
        told("hand 1 0 0;hand 1 0 0;hand 1 0 3;hand 1 2 0;silent 2 0;silent 1 3;silent 0 2;");
        is(2, "speaks");
        answer("years", 2);
        is(4, "speaks");
        answer("years", 1);
        is(2, "speaks");

        against(50, "SPEAKS.");
        told(HAND.repeat(9));
        is(36, "speaks");
        told(HAND.repeat(9) + everyone());
        is(0, "speaks");
        told(HAND);
        is(0, "speaks");
        told("");
        is(0, "speaks");
    }
}
