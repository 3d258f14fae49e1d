/** Promises 7 to 10 and 13 to 22: what stands in a year, years that go by, are undone or asked ahead, what is done by hand. */
final class YearSentences extends Sentences {
    private static final int LEAST = Integer.MIN_VALUE;
    private static final int GREATEST = Integer.MAX_VALUE;
    private static final String HAND = "hand 1 0 0;";
    private static final String PUPPET = "puppet 1 1 9;";

    @Override
    void hold() {
        alive();
        atFirst();
        aYear();
        dying();
        choosing();
        whoMayBeChosen();
        greatestScore();
        wearing();
        workedLast();
        tells();
        tellsOfHands();
        tellsOfPuppets();
        tellsOfActs();
        yearsGoBy();
        undone();
        undoneAtMost();
        since();
        chose();
        ahead();
        when();
        last();
        lastBound();
        dies();
        strings();
        gives();
    }

    private void alive() {
        against(13, "ALIVE is who is born by the YEAR and is not dead.");
        told("hand 1 2 4;hand 1 0 1;hand 1 40 0;");
        lives(0, 1, 0, 1);
        answer("years", 1);
        lives(0, 2, 0, 0);
        answer("years", 1);
        lives(1, 2, 0, 1);
        answer("years", 1);
        lives(1, 2, 0, 1);
        answer("years", 1);
        lives(2, 2, 0, 0);
        answer("years", 35);
        lives(2, 2, 0, 0);
        answer("years", 1);
        lives(2, 2, 1, 1);
        is(0, "dies", 2);
        lives(2, 2, 2, 0);
    }

    private void lives(int first, int second, int third, int alive) {
        is(first, "hand", 0, 3);
        is(second, "hand", 1, 3);
        is(third, "hand", 2, 3);
        is(alive, "told", 4);
    }

    private void atFirst() {
        against(13, "It is YEAR 0 at first, all is as told.");
        told("hand 4 0 1;hand 5 1 0;puppet 3 2 30;puppet 4 1 0;works 0 0;");
        is(0, "told", 3);
        is(1, "puppet", 0, 3);
        is(0, "puppet", 1, 3);
        is(30, "puppet", 0, 2);
        is(0, "puppet", 1, 2);
        is(1, "hand", 0, 3);
        is(0, "hand", 1, 3);
        is(1, "hand", 0, 4);
        is(0, "count", 2);
    }

    private void aYear() {
        against(13, "A YEAR that goes by: it is one more;");
        told(HAND + PUPPET);
        for (int year = 1; year <= 5; year++) {
            is(year, "years", 1);
            is(year, "told", 3);
        }
        is(12, "years", 7);
    }

    private void dying() {
        against(13, "(a) HANDS with D of it die, by number: they work nothing more.");
        told("hand 1 0 2;hand 9 0 1;" + HAND + "puppet 1 2 9;puppet 1 1 9;puppet 1 1 9;works 0 0;works 1 0;works 1 1;works 1 2;");
        is(1, "hand", 1, 3);
        is(7, "hand", 1, 4);
        answer("years", 1);
        is(2, "hand", 1, 3);
        is(0, "hand", 1, 4);
        is(1, "hand", 0, 3);
        is(1, "puppet", 0, 5);
        answer("years", 1);
        is(2, "hand", 0, 3);
        is(0, "hand", 0, 4);
        // both in one YEAR, the lower number told as the one who has it longer
        told("hand 1 0 3;hand 1 0 3;" + HAND + "puppet 1 2 9;works 1 0;works 0 0;");
        answer("years", 3);
        is(1, "puppet", 0, 5);
        is(4, "puppet", 0, 3);
    }

    private void choosing() {
        against(13, "(b) PUPPETS by number: each that has fewer HANDS than it needs chooses, one after the other,");
        // puppet 0 chooses two in one YEAR, puppet 1 the second it needs, puppet 2 nobody
        told("hand 3 0 0;hand 2 0 0;hand 1 0 0;puppet 1 2 9;puppet 1 2 9;puppet 1 1 9;works 2 1;works 1 2;");
        is(1, "years", 1);
        // puppet 0 by 6, 4 - 3 and 2 - 3, then puppet 1 by 6 - 3 and 4 - 6
        is(3, "puppet", 0, 3);
        is(5, "puppet", 1, 3);
        is(2, "puppet", 2, 3);
        is(0, "orphans");
        // by number: what the first takes the last can't have
        told(HAND + PUPPET.repeat(5));
        answer("years", 1);
        is(7, "hand", 0, 4);
        is(24, "orphans");
        // the one who dies is followed in the same YEAR, by who is born in it
        told("hand 1 0 2;hand 1 2 0;" + PUPPET + "works 0 0;");
        answer("years", 1);
        is(1, "puppet", 0, 3);
        answer("years", 1);
        is(2, "puppet", 0, 3);
        // who has all chooses nobody, whatever the score
        told("hand 0 0 0;hand 9 0 0;" + PUPPET + "works 0 0;");
        answer("years", 60);
        is(1, "puppet", 0, 3);
    }

    private void whoMayBeChosen() {
        against(13, "of those ALIVE who do not work it, have not quarrelled with it, and work fewer than 3 PUPPETS,");
        // the best by LIMP is not born, is dead, has quarrelled, works it: the worst is chosen
        told("hand 9 2 0;hand 8 0 1;hand 7 0 0;hand 0 0 0;puppet 1 2 9;quarrel 2 0;");
        answer("years", 1);
        is(8, "puppet", 0, 3);
        is(1, "puppet", 0, 4);
        answer("years", 1);
        is(9, "puppet", 0, 3);
        // two are fewer than three, three are not, nor are four
        String busy = "hand 9 0 0;hand 0 0 0;" + PUPPET.repeat(5);
        told(busy + "works 0 1;works 0 2;works 1 3;works 1 4;");
        answer("years", 1);
        is(1, "puppet", 0, 3);
        told(busy + "works 0 1;works 0 2;works 0 3;works 1 4;");
        answer("years", 1);
        is(2, "puppet", 0, 3);
        told(busy + "works 0 1;works 0 2;works 0 3;works 0 4;");
        answer("years", 1);
        is(2, "puppet", 0, 3);
        is(30, "hand", 0, 4);
        told("hand 9 0 0;" + PUPPET.repeat(4) + "works 0 1;works 0 2;works 0 3;");
        answer("years", 60);
        is(0, "puppet", 0, 3);
    }

    private void greatestScore() {
        against(13, "the one of the greatest SCORE (the LAW, as all is then), of alike ones the least; none such: it lacks one.");
        chosen(2, "number", HAND.repeat(3) + PUPPET);
        chosen(0, "0-number", HAND.repeat(3) + PUPPET);
        chosen(0, "7", HAND.repeat(3) + PUPPET);
        chosen(1, "most[number,1]", "hand 1 2 0;" + HAND.repeat(2) + PUPPET + "quarrel 2 0;");
        chosen(0, "512*512*512*16", HAND.repeat(3) + PUPPET);
        chosen(1, "512*512*512*16-number", HAND.repeat(2) + PUPPET);
        chosen(0, "512*512*512*16-1+number", HAND.repeat(2) + PUPPET);
        // the YEAR is one more, the STRINGS are not worn yet
        chosen(1, "number*(year%2)", HAND.repeat(2) + PUPPET);
        chosen(1, "number*(strings%2)", HAND.repeat(2) + PUPPET);
        // who died in the YEAR works nothing: 1 is no kin any more
        chosen(2, "kin*9+number%3", "hand 1 0 1;" + HAND.repeat(2) + PUPPET + "puppet 1 2 9;works 0 0;works 0 1;works 1 1;");
        // what puppet 0 chose counts for puppet 1
        told("hand 2 0 0;hand 1 0 0;" + PUPPET + PUPPET);
        answer("years", 1);
        is(1, "puppet", 0, 3);
        is(2, "puppet", 1, 3);
        told("hand 1 3 0;hand 1 0 0;puppet 1 2 9;");
        answer("years", 1);
        is(2, "puppet", 0, 3);
        is(1, "puppet", 0, 4);
        answer("years", 2);
        is(0, "puppet", 0, 4);
        told(PUPPET);
        is(60, "years", 60);
        is(1, "puppet", 0, 4);
    }

    private void chosen(int hand, String law, String family) {
        told(family);
        law(law);
        answer("years", 1);
        is(1 << hand, "puppet", 0, 3);
    }

    private void wearing() {
        against(13, "(c) Each that has all its HANDS loses Q STRINGS (0 at least).");
        told(HAND + "hand 1 1 0;puppet 1 1 4;puppet 1 1 3;puppet 1 1 2;puppet 1 2 9;puppet 1 1 0;wear 3;quarrel 1 4;works 0 0;works 0 1;works 0 2;"
            + "works 0 3;");
        answer("years", 1);
        is(1, "puppet", 0, 2);
        is(0, "puppet", 1, 2);
        is(0, "puppet", 2, 2);
        // 1 was born and chosen in the YEAR: puppet 3 has both and wears
        is(6, "puppet", 3, 2);
        is(0, "puppet", 4, 2);
        answer("years", 1);
        is(0, "puppet", 0, 2);
        is(0, "puppet", 1, 2);
        is(3, "puppet", 3, 2);
        // one of two is not all
        told(HAND + "puppet 1 2 9;puppet 1 1 9;wear 9;works 0 0;quarrel 0 1;");
        answer("years", 60);
        is(9, "puppet", 0, 2);
        is(9, "puppet", 1, 2);
        // a HAND that dies and has no heir takes no STRINGS along
        told("hand 1 0 2;" + PUPPET + "works 0 0;");
        answer("years", 5);
        is(8, "puppet", 0, 2);
    }

    private void workedLast() {
        against(9, "WORKED LAST: of each PUPPET the HAND that ceased to work it latest");
        told(HAND.repeat(4) + PUPPET + "puppet 1 2 9;works 0 0;works 0 1;works 1 1;");
        is(1, "give", 0, 0, 2);
        is(0, "puppet", 0, 5);
        is(NONE, "puppet", 1, 5);
        is(1, "give", 0, 2, 0);
        is(2, "puppet", 0, 5);
        is(2, "dies", 0);
        is(0, "puppet", 0, 5);
        is(0, "puppet", 1, 5);
        is(1, "dies", 1);
        is(1, "puppet", 1, 5);
        is(0, "puppet", 0, 5);

        against(9, "(none at first; of some who ceased together the last by number).");
        told("hand 1 0 2;hand 1 0 1;hand 1 0 2;puppet 1 2 9;puppet 1 2 9;works 2 0;works 0 0;works 1 1;works 0 1;");
        is(NONE, "puppet", 0, 5);
        is(NONE, "puppet", 1, 5);
        answer("years", 1);
        is(NONE, "puppet", 0, 5);
        is(1, "puppet", 1, 5);
        answer("years", 1);
        is(2, "puppet", 0, 5);
        // 2 was chosen by it in YEAR 1
        is(2, "puppet", 1, 5);
        told("hand 1 0 2;" + HAND + "hand 1 0 2;puppet 1 2 9;works 2 0;works 0 0;");
        answer("years", 2);
        is(2, "puppet", 0, 5);
    }

    private void tells() {
        against(7, "0 HANDS, 1 PUPPETS, 2 ACTS, 3 the YEAR, 4 HANDS ALIVE, 5 STRINGS in all, 6 lines of the BOOK.");
        fresh();
        for (int what = 0; what <= 6; what++) is(0, "told", what);
        told(HAND.repeat(9) + "puppet 1 1 30;".repeat(8) + "act 1 0 end;".repeat(6));
        book("1 0 0;".repeat(12));
        int[] full = {9, 8, 6, 0, 9, 240, 12};
        for (int what = 0; what <= 6; what++) is(full[what], "told", what);
        for (int i = 0; i < 4; i++) answer("years", 60);
        is(200, "told", 3);
        is(0, "told", 5);
        told("hand 1 0 1;hand 1 2 0;puppet 1 1 0;puppet 1 2 7;act 9 0 end;");
        book("1 0 0;2 0 1;");
        int[] some = {2, 2, 1, 0, 1, 7, 2};
        for (int what = 0; what <= 6; what++) is(some[what], "told", what);
        answer("years", 1);
        is(0, "told", 4);
        is(2, "told", 0);

        against(7, "IllegalArgumentException: another what (so below).");
        for (int what : new int[] {-1, 7, 256, LEAST, GREATEST}) noArgument("told", what);
        told(HAND + PUPPET + "act 1 0 end;");
        for (int what : new int[] {-1, 6, 256, LEAST, GREATEST}) {
            noArgument("hand", 0, what);
            noArgument("puppet", 0, what);
        }
        for (int what : new int[] {-1, 3, 256, LEAST, GREATEST}) noArgument("act", 0, what);
        for (int what : new int[] {-1, 2, LEAST, GREATEST}) noArgument("first", what);
        for (int what : new int[] {-1, 4, LEAST, GREATEST}) noArgument("fates", 1, 0, 1, what);
        for (int what : new int[] {-1, 3, LEAST, GREATEST}) noArgument("span", 1, 1, 0, 1, what, 0);
    }

    private void tellsOfHands() {
        String some = "hand 0 0 60;hand 9 2 0;hand 5 40 41;" + PUPPET.repeat(8) + "works 0 0;works 0 7;";
        against(8, "Of a HAND: 0 LIMP, 1 B, 2 the YEAR of his death as told (0: none),");
        told(some);
        int[][] want = {{0, 0, 60}, {9, 2, 0}, {5, 40, 41}};
        for (int h = 0; h < 3; h++) {
            for (int what = 0; what <= 2; what++) is(want[h][what], "hand", h, what);
        }
        answer("years", 3);
        answer("dies", 0);
        answer("dies", 1);
        is(60, "hand", 0, 2);
        is(0, "hand", 1, 2);

        against(8, "3 0 not born, 1 ALIVE, 2 dead,");
        is(2, "hand", 0, 3);
        is(0, "hand", 2, 3);
        told(some);
        is(1, "hand", 0, 3);
        is(0, "hand", 1, 3);
        answer("years", 1);
        is(0, "hand", 1, 3);
        answer("years", 1);
        is(1, "hand", 1, 3);
        answer("years", 38);
        is(1, "hand", 2, 3);
        answer("years", 1);
        is(2, "hand", 2, 3);

        against(8, "4 PUPPETS it works (bits),");
        told(some);
        is(129, "hand", 0, 4);
        is(0, "hand", 1, 4);
        fine(8, HAND + PUPPET.repeat(8) + "works 0 0;works 0 1;works 0 2;works 0 3;works 0 4;works 0 5;works 0 6;works 0 7;");
        is(255, "hand", 0, 4);

        against(8, "5 age (0: not born).");
        told(some);
        int[][] ages = {{0, 0, 0}, {1, 0, 0}, {2, 0, 0}, {3, 1, 0}};
        for (int year = 0; year <= 3; year++) {
            for (int h = 0; h < 3; h++) is(ages[year][h], "hand", h, 5);
            answer("years", 1);
        }
        answer("years", 36);
        is(0, "hand", 2, 5);
        answer("years", 1);
        is(1, "hand", 2, 5);
        is(39, "hand", 1, 5);

        against(8, "NoSuchElementException: no such HAND, PUPPET, ACT (so below, ahead of others).");
        told(some);
        for (int h : new int[] {-1, 3, 32, 256, LEAST, GREATEST}) noElement("hand", h, 0);
        noElement("hand", 3, 6);
        noElement("hand", -1, -1);
        is(5, "hand", 2, 0);
    }

    private void tellsOfPuppets() {
        against(9, "Of a PUPPET: 0 FALL, 1 K, 2 STRINGS now, 3 its HANDS (bits), 4 how many it lacks, 5 who worked it last (NONE).");
        told("hand 1 0 1;" + HAND.repeat(8) + "puppet 0 1 30;puppet 15 2 0;puppet 3 2 5;works 0 0;works 8 2;works 0 2;");
        int[][] want = {{0, 1, 30, 1, 0, NONE}, {15, 2, 0, 0, 2, NONE}, {3, 2, 5, 257, 0, NONE}};
        for (int p = 0; p < 3; p++) {
            for (int what = 0; what <= 5; what++) is(want[p][what], "puppet", p, what);
        }
        is(2, "dies", 0);
        is(1, "puppet", 0, 4);
        is(1, "puppet", 2, 4);
        is(256, "puppet", 2, 3);
        is(0, "puppet", 2, 5);
        for (int p : new int[] {-1, 3, 32, LEAST, GREATEST}) noElement("puppet", p, 0);
        noElement("puppet", 3, 6);
    }

    private void tellsOfActs() {
        against(10, "Of an ACT: 0 LAUGHS, 1 its PUPPETS (bits), 2 HANDS it needs.");
        told("puppet 1 2 9;".repeat(7) + "puppet 1 1 9;act 0 7 end;act 9 5 4 3 2 1 0 end;act 3 7 0 end;");
        int[][] want = {{0, 128, 1}, {9, 63, 12}, {3, 129, 3}};
        for (int a = 0; a < 3; a++) {
            for (int what = 0; what <= 2; what++) is(want[a][what], "act", a, what);
        }
        for (int a : new int[] {-1, 3, 32, LEAST, GREATEST}) noElement("act", a, 0);
        noElement("act", 3, 3);
    }

    private void yearsGoBy() {
        against(13, "n YEARS (1 to 60) go by: the YEAR then (200 at most: no further).");
        told(HAND + "puppet 1 1 30;works 0 0;");
        for (int n : new int[] {0, 61, -1, LEAST, GREATEST}) noArgument("years", n);
        is(0, "told", 3);
        is(30, "puppet", 0, 2);
        is(1, "years", 1);
        is(29, "puppet", 0, 2);
        is(61, "years", 60);
        is(121, "years", 60);
        is(181, "years", 60);
        is(199, "years", 18);
        answer("string", 0, 9);
        is(200, "years", 60);
        is(8, "puppet", 0, 2);
        is(1, "count", 2);
        is(200, "years", 1);
        is(200, "years", 60);
        is(8, "puppet", 0, 2);
        is(1, "count", 2);
        is(200, "told", 3);
        is(1, "undo", 60);
        is(199, "told", 3);
        is(200, "years", 1);
        for (int n : new int[] {0, 61, -1}) noArgument("years", n);
        told(HAND);
        for (int i = 0; i < 3; i++) answer("years", 60);
        is(200, "years", 20);
        told(HAND);
        for (int i = 0; i < 3; i++) answer("years", 60);
        is(200, "years", 21);
        is(200, "count", 2);
    }

    private void undone() {
        against(14, "n YEARS (1 to 60) are undone");
        told("hand 5 0 3;hand 2 0 0;hand 2 1 0;puppet 1 1 5;puppet 2 2 4;works 0 0;wear 2;");
        for (int n : new int[] {0, 61, -1, LEAST, GREATEST}) noArgument("undo", n);
        is(0, "undo", 1);
        is(0, "undo", 60);
        answer("years", 3);
        for (int n : new int[] {0, 61, -1}) noArgument("undo", n);
        is(3, "told", 3);
        is(1, "undo", 1);
        is(2, "told", 3);
        is(1, "hand", 0, 3);
        is(3, "puppet", 1, 3);
        is(1, "puppet", 0, 3);
        is(1, "puppet", 0, 2);
        is(0, "puppet", 1, 2);
        is(NONE, "puppet", 0, 5);
        is(NONE, "since", 2, 1);
        is(NONE, "chose", 2);
        is(1, "chose", 0);
        is(2, "undo", 60);
        is(0, "told", 3);
        is(0, "puppet", 1, 3);
        is(4, "puppet", 1, 2);
        is(NONE, "chose", 0);
        is(3, "years", 3);
        is(6, "puppet", 1, 3);
        is(3, "count", 2);
        for (int i = 0; i < 4; i++) answer("years", 60);
        is(60, "undo", 60);
        is(140, "told", 3);
        is(60, "undo", 60);
        is(60, "undo", 60);
        is(20, "undo", 60);
        is(0, "undo", 60);
        is(0, "told", 3);

        against(14, ": how many.");
        answer("years", 5);
        is(2, "undo", 2);
        is(3, "undo", 4);
        is(0, "undo", 1);
        answer("years", 5);
        is(5, "undo", 5);
    }

    private void undoneAtMost() {
        against(14, "(to the latest family(), law() that was told, dies(), string(), give(), restore() at most)");
        String two = HAND + HAND + "puppet 1 1 30;works 0 0;";
        for (String[] ended : new String[][] {{"family"}, {"law"}, {"dies", "1"}, {"string", "0", "1"}, {"give", "0", "0", "1"}, {"restore"}}) {
            told(two);
            answer("image");
            answer("years", 4);
            is(4, "count", 2);
            if (ended[0].equals("family")) family(two);
            else if (ended[0].equals("law")) law("limp");
            else answer(ended[0], java.util.Arrays.stream(ended).skip(1).mapToInt(Integer::parseInt).toArray());
            int year = ended[0].equals("family") || ended[0].equals("restore") ? 0 : 4;
            is(0, "count", 2);
            is(year, "told", 3);
            is(0, "undo", 60);
            is(year, "told", 3);
            is(year + 2, "years", 2);
            is(2, "undo", 60);
            is(year, "told", 3);
        }
        // what was done stays when YEARS behind it are undone
        told(two);
        answer("years", 1);
        answer("dies", 1);
        answer("string", 0, 1);
        answer("years", 3);
        is(3, "undo", 60);
        is(2, "hand", 1, 3);
        is(30, "puppet", 0, 2);
        is(1, "told", 3);
        // what is refused, has a fault or does nothing ends nothing, nor does a book, an image, a question
        told(two);
        answer("years", 4);
        call("law", feed("limp limp"));
        call("family", feed("hand"));
        noArgument("string", 0, 31);
        noElement("dies", 2);
        noElement("give", 0, 0, 2);
        noArgument("family", 1);
        noArgument("law", 1);
        is(NONE, "restore");
        is(0, "give", 0, 1, 0);
        book("1 0 0;");
        answer("image");
        answer("right");
        answer("ahead", 0, 60);
        answer("fates", 1, 5, 9, 0);
        is(4, "count", 2);
        answer("dies", 1);
        answer("years", 1);
        is(NONE, "dies", 1);
        is(1, "count", 2);
    }

    private void since() {
        against(15, "The YEAR in which a HAND began to work a PUPPET latest (0: as told; NONE: never).");
        told("hand 9 0 0;hand 1 0 0;hand 1 2 0;puppet 1 2 9;" + PUPPET + "works 0 0;quarrel 0 1;");
        is(0, "since", 0, 0);
        is(NONE, "since", 1, 0);
        is(NONE, "since", 0, 1);
        answer("years", 1);
        is(0, "since", 0, 0);
        is(1, "since", 1, 0);
        is(1, "since", 1, 1);
        answer("years", 2);
        is(1, "give", 0, 0, 2);
        is(0, "since", 0, 0);
        is(3, "since", 2, 0);
        answer("years", 1);
        is(1, "give", 0, 2, 0);
        is(4, "since", 0, 0);
        is(3, "since", 2, 0);
        answer("dies", 0);
        is(4, "since", 0, 0);
        // given in YEAR 0
        told(HAND + HAND + PUPPET + "works 0 0;");
        answer("give", 0, 0, 1);
        is(0, "since", 1, 0);
        for (int n : new int[] {-1, 2, LEAST, GREATEST}) noElement("since", n, 0);
        for (int n : new int[] {-1, 1, LEAST, GREATEST}) noElement("since", 0, n);
    }

    private void chose() {
        against(16, "Which PUPPET chose a HAND first; NONE: none did (as told is not by choice).");
        told("hand 9 0 0;hand 1 0 2;hand 1 0 0;" + PUPPET.repeat(3) + "works 0 0;works 1 1;quarrel 0 2;quarrel 2 2;");
        for (int h = 0; h < 3; h++) is(NONE, "chose", h);
        answer("years", 1);
        is(2, "chose", 1);
        is(NONE, "chose", 0);
        answer("years", 1);
        is(1, "chose", 0);
        is(2, "chose", 1);
        is(NONE, "chose", 2);
        // a gift is no choice; of two choices the first counts
        answer("give", 0, 0, 2);
        is(NONE, "chose", 2);
        told(HAND + PUPPET + PUPPET);
        answer("years", 9);
        is(3, "hand", 0, 4);
        is(0, "chose", 0);
        for (int n : new int[] {-1, 1, LEAST, GREATEST}) noElement("chose", n);
    }

    private void ahead() {
        against(17, "So many YEARS on (0 to 60): HANDS of a PUPPET, as bits.");
        told("hand 5 0 3;hand 2 0 0;hand 2 1 60;puppet 1 1 5;puppet 2 2 4;works 0 0;quarrel 1 0;");
        int[] first = {1, 1, 1, 4};
        int[] second = {0, 3, 3, 6};
        for (int years = 0; years <= 3; years++) {
            is(first[years], "ahead", 0, years);
            is(second[years], "ahead", 1, years);
        }
        is(4, "ahead", 0, 59);
        is(0, "ahead", 0, 60);
        is(2, "ahead", 1, 60);
        for (int n : new int[] {-1, 61, LEAST, GREATEST}) noArgument("ahead", 0, n);
        for (int n : new int[] {-1, 2, LEAST, GREATEST}) noElement("ahead", n, 0);
        noElement("ahead", 2, 61);
        is(0, "told", 3);
        answer("years", 2);
        is(4, "ahead", 0, 1);
        is(4, "ahead", 0, 57);
        is(0, "ahead", 0, 58);
        is(2, "told", 3);
    }

    private void when() {
        against(18, "The first YEAR from the next one on (of 60) behind which a HAND works a PUPPET; NONE.");
        told("hand 1 0 60;" + HAND + PUPPET + "works 0 0;");
        is(1, "when", 0, 0);
        is(60, "when", 1, 0);
        answer("years", 1);
        is(2, "when", 0, 0);
        is(60, "when", 1, 0);
        answer("years", 58);
        is(NONE, "when", 0, 0);
        is(60, "when", 1, 0);
        answer("years", 1);
        is(61, "when", 1, 0);
        is(NONE, "when", 0, 0);
        // he works it now, but behind no YEAR to come
        told("hand 1 0 1;" + PUPPET + "works 0 0;");
        is(NONE, "when", 0, 0);
        told("hand 1 0 2;hand 1 40 0;" + HAND + PUPPET + PUPPET + PUPPET + PUPPET + "works 0 0;works 2 1;works 2 2;works 2 3;");
        is(1, "when", 0, 0);
        is(40, "when", 1, 0);
        is(NONE, "when", 2, 0);
        is(NONE, "when", 1, 1);
        for (int n : new int[] {-1, 3, LEAST, GREATEST}) noElement("when", n, 0);
        for (int n : new int[] {-1, 4, LEAST, GREATEST}) noElement("when", 0, n);
    }

    private void last() {
        against(19, "The first YEAR from the next one on (of 60) behind which an ACT can't be CAST; NONE.");
        told(HAND + "hand 1 0 60;" + PUPPET + "puppet 1 1 0;works 0 0;act 8 0 end;act 9 0 end;act 0 0 1 end;act 0 0 end;act 9 1 end;");
        is(2, "last", 0);
        is(1, "last", 1);
        is(60, "last", 2);
        is(NONE, "last", 3);
        is(1, "last", 4);
        answer("years", 1);
        is(2, "last", 0);
        is(2, "last", 1);
        is(60, "last", 2);
        answer("years", 59);
        is(61, "last", 2);
        for (int n : new int[] {-1, 5, LEAST, GREATEST}) noElement("last", n);
    }

    private void lastBound() {
        // puppet 3 has a HAND from YEAR 40 on: 21 STRINGS are gone behind YEAR 60, 22 behind YEAR 61
        String late = HAND + "hand 1 40 0;puppet 1 1 0;puppet 1 1 0;puppet 1 1 0;puppet 1 1 S;works 0 0;works 0 1;works 0 2;act 1 3 end;";
        against(19, "(of 60)");
        told(late.replace("S", "21"));
        is(60, "last", 0);
        told(late.replace("S", "22"));
        is(NONE, "last", 0);
        answer("years", 1);
        is(61, "last", 0);
        against(45, "behind which of the next 60 YEARS a PUPPET has no STRINGS");
        told(late.replace("S", "21"));
        is(60, "fades", 3);
        told(late.replace("S", "22"));
        is(NONE, "fades", 3);
        answer("years", 1);
        is(61, "fades", 3);
    }

    private void dies() {
        against(20, "A HAND dies now: how many PUPPETS he worked;");
        told(HAND.repeat(3) + PUPPET.repeat(7) + "puppet 1 2 9;works 0 0;works 0 1;works 0 2;works 0 3;works 0 4;works 0 5;works 0 6;works 0 7;"
            + "works 1 7;");
        is(8, "dies", 0);
        is(2, "hand", 0, 3);
        is(0, "hand", 0, 4);
        is(2, "told", 4);
        is(0, "told", 3);
        for (int p = 0; p < 8; p++) {
            is(p < 7 ? 0 : 2, "puppet", p, 3);
            is(0, "puppet", p, 5);
        }
        is(1, "dies", 1);
        is(1, "puppet", 7, 5);
        is(0, "dies", 2);
        is(0, "told", 4);

        against(20, "-1: he is not ALIVE.");
        for (int h = 0; h < 3; h++) is(-1, "dies", h);
        is(1, "puppet", 7, 5);
        told("hand 1 1 2;");
        is(-1, "dies", 0);
        answer("years", 1);
        is(0, "dies", 0);
        is(-1, "dies", 0);
        told("hand 1 0 2;");
        answer("years", 2);
        is(-1, "dies", 0);
        for (int n : new int[] {-1, 1, LEAST, GREATEST}) noElement("dies", n);
    }

    private void strings() {
        against(21, "N STRINGS (1 to 30) come to a PUPPET (30 at most, what is more is lost): how many it has.");
        told("puppet 1 1 0;puppet 1 1 29;puppet 1 1 30;");
        is(1, "string", 0, 1);
        is(30, "string", 0, 29);
        is(30, "string", 0, 1);
        is(30, "string", 1, 1);
        is(30, "string", 2, 30);
        is(90, "told", 5);
        told("puppet 1 1 0;puppet 1 1 1;puppet 1 1 29;");
        is(30, "string", 0, 30);
        is(30, "string", 1, 30);
        is(30, "string", 2, 2);
        is(30, "puppet", 2, 2);
        for (int n : new int[] {0, 31, -1, LEAST, GREATEST}) noArgument("string", 0, n);
        for (int n : new int[] {-1, 3, LEAST, GREATEST}) noElement("string", n, 1);
        noElement("string", 3, 0);
    }

    private void gives() {
        String some = HAND.repeat(3) + "hand 1 2 0;" + HAND + "puppet 1 2 9;" + PUPPET.repeat(4);
        against(22, "A HAND that works a PUPPET gives it to another one: 1;");
        told(some + "works 0 0;works 1 0;silent 1 2;");
        is(1, "give", 0, 0, 2);
        is(6, "puppet", 0, 3);
        is(0, "puppet", 0, 5);
        is(0, "hand", 0, 4);
        is(1, "hand", 2, 4);
        is(0, "since", 2, 0);
        is(NONE, "chose", 2);
        is(0, "told", 3);

        against(22, "0: it does not work it, the other one is not ALIVE, works it, has quarrelled with it, or works 3.");
        told(some + "works 0 0;works 1 0;works 2 1;works 2 2;quarrel 4 0;");
        is(0, "give", 0, 2, 0);
        is(0, "give", 1, 0, 4);
        is(0, "give", 0, 0, 3);
        is(0, "give", 0, 0, 1);
        is(0, "give", 0, 0, 0);
        is(0, "give", 0, 0, 4);
        is(3, "puppet", 0, 3);
        is(NONE, "puppet", 0, 5);
        // two are not three
        is(1, "give", 0, 0, 2);
        is(6, "puppet", 0, 3);
        // the other one is born
        is(2, "years", 2);
        is(1, "give", 0, 1, 3);
        // he is dead
        answer("dies", 0);
        is(0, "give", 0, 3, 0);
        told(some + "works 0 0;works 2 1;works 2 2;works 2 3;");
        is(0, "give", 0, 0, 2);
        is(1, "give", 0, 0, 1);
        told(some + "works 0 0;works 2 1;works 2 2;works 2 3;works 2 4;");
        is(0, "give", 0, 0, 2);
        // who gives may work as many as he does
        is(1, "give", 4, 2, 0);
        is(17, "hand", 0, 4);
        for (int n : new int[] {-1, 5, LEAST, GREATEST}) {
            noElement("give", n, 0, 1);
            noElement("give", 0, n, 1);
            noElement("give", 0, 0, n);
        }
        rich();
        answer("undo", 60);
        answer("years", 3);
        is(0, "give", 0, 3, 2);
        is(-1, "dies", 1);
        isUntouched(true, "a gift that is none, a death of the dead");
    }
}
