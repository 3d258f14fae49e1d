/** Promises 1, 2, 3, 5 and 6: a new object, the tape, families and books, and where their faults are. */
final class TextSentences extends Sentences {
    private static final String HAND = "hand 1 0 0;";
    private static final String PUPPET = "puppet 1 1 1;";
    private static final int LEAST = Integer.MIN_VALUE;
    private static final int GREATEST = Integer.MAX_VALUE;

    @Override
    void hold() {
        newObject();
        manyCalls();
        tape();
        families();
        familyKeepsOrClears();
        clauses();
        hands();
        puppets();
        works();
        quarrels();
        silence();
        acts();
        debts();
        wear();
        toldAhead();
        numbers();
        words();
        blanks();
        firstFromTheLeft();
        cannotStand();
        noneSuch();
        tooMany();
        books();
        bookLines();
        places();
    }

    private void newObject() {
        against(1, "A FAMILY without CLAUSES.");
        fresh();
        for (int what = 0; what <= 6; what++) is(0, "told", what);
        for (int what = 0; what <= 2; what++) is(0, "count", what);
        for (int what = 0; what <= 1; what++) is(0, "status", what);
        is(NONE, "fault");
        noElement("hand", 0, 0);
        noElement("puppet", 0, 0);
        noElement("act", 0, 0);
        for (String bits : new String[] {"played", "orphans", "idle", "mute", "nights", "speaks", "right"}) is(0, bits);
        is(NONE, "dearest");
        is(NONE, "first", 0);
        is(NONE, "first", 1);
        is(0, "slack", 31);
        is(0, "fair", 0);
        noArgument("fair", 1);
        is(0, "fates", 5, 16, 40, 0);
        is(NONE, "restore");
        is(0, "undo", 1);
        is(3, "years", 3);
        is(3, "undo", 60);
    }

    private void manyCalls() {
        against(1, "An object is used for at most 512 calls after it has been made; what later calls answer is free.");
        fresh();
        for (int i = 0; i < 511; i++) call("told", 7);
        is(511, "status", 1);
        told(HAND + PUPPET);
        for (int i = 0; i < 506; i++) call("years", 1);
        is(200, "told", 3);
        is(200, "count", 2);
    }

    private void tape() {
        against(2, "Twenty bytes come on the TAPE, of each number the highest first");
        fresh();
        // hand 7 0 9;wear 0;
        is(20, "feed", 0x68616e64, 0x20372030, 0x20393b77, 0x65617220, 0x303b2020);
        is(0, "family", 20);
        is(7, "hand", 0, 0);
        is(9, "hand", 0, 2);
        int[] faulty = {0xe9202020, 0x20e92020, 0x2020e920, 0x202020e9};
        for (int place = 0; place < 4; place++) {
            is(20, "feed", faulty[place], -1, -1, -1, -1);
            is(-9, "family", 20);
            is(place, "fault");
        }
        is(20, "feed", 0x20202020, 0x20202020, 0x20202020, 0x20202020, 0x20202080);
        is(-9, "family", 20);
        is(19, "fault");
        is(20, "feed", LEAST, 0, 0, 0, 0);
        is(-9, "family", 20);
        is(0, "fault");

        against(2, ": how many there are;");
        fresh();
        for (int n = 20; n <= 600; n += 20) is(n, "feed", 0, 0, 0, 0, 0);
        is(600, "count", 1);

        against(2, "NONE, doing nothing, if there would be more than 600.");
        fresh();
        String full = "hand 3 0 0;" + " ".repeat(582) + "wear 4;";
        feed(full.substring(0, 580));
        is(600, "feed", 0x20202020, 0x20202020, 0x20202020, 0x20776561, 0x7220343b);
        for (int i = 0; i < 3; i++) is(NONE, "feed", -1, -1, -1, -1, -1);
        is(600, "count", 1);
        is(NONE, "fault");
        is(0, "family", 600);
        is(3, "hand", 0, 0);
        is(20, "feed", -1, -1, -1, -1, -1);
    }

    private void families() {
        against(3, "The first n bytes of the TAPE (empty then) are the FAMILY");
        fresh();
        feed("hand 7 0 9;wear 0;  ");
        is(0, "family", 11);
        is(1, "told", 0);
        is(0, "count", 1);
        feed("hand 7 0 9;wear 0;  ");
        is(-9, "family", 10);
        is(10, "fault");
        is(0, "count", 1);
        feed("hand 7 0 9;wear 0;  ");
        is(0, "family", 0);
        is(0, "told", 0);
        is(0, "count", 1);
        feed("hand 7 0 9;wear 0;  ");
        is(0, "family", 20);
        is(1, "told", 0);
        nothingIsLeft();

        against(3, ": how many PUPPETS;");
        fine(0, HAND);
        fine(1, PUPPET);
        fine(8, PUPPET.repeat(8));

        against(3, "IllegalArgumentException: n is not 0 to the TAPE's bytes (it stays).");
        fresh();
        for (int n : new int[] {1, -1, LEAST, GREATEST}) noArgument("family", n);
        is(0, "family", 0);
        feed("hand 7 0 9;wear 0;  ");
        for (int n : new int[] {21, -1, 600, LEAST, GREATEST}) noArgument("family", n);
        is(20, "count", 1);
        is(0, "family", 20);
        is(7, "hand", 0, 0);
        feed(" ".repeat(600));
        noArgument("family", 601);
        is(600, "count", 1);
        is(0, "family", 600);
        for (int n : new int[] {21, -1, LEAST, GREATEST}) {
            rich();
            noArgument("family", n);
            isUntouched(true, "family(" + n + ")");
        }

        against(3, "A FAMILY is a text of up to 600 bytes: {");
        fine(0, " ".repeat(593) + "wear 0;");
        fine(0, "wear   00;".repeat(60));
        fault(CANNOT_STAND, "wear 0;" + " ".repeat(592) + "^x");
        fault(CANNOT_STAND, "wear 0;" + " ".repeat(587) + "wear 0^");
        fine(0, "");
    }

    /** Of the families that were told before, or had a fault, nothing is left in the next. */
    private void nothingIsLeft() {
        String all = HAND.repeat(9) + "puppet 1 2 9;".repeat(8) + "works 0 0;works 1 0;quarrel 0 1;quarrel 1 1;quarrel 2 1;"
            + "silent 0 1;silent 1 2;owes 0 1 9;owes 1 0 8;owes 2 0 7;act 9 0 1 2 3 4 5 end;act 9 5 4 3 end;wear 9;";
        String little = HAND + HAND + HAND + "puppet 1 1 9;puppet 1 1 9;act 0 0 end;act 0 1 0 end;";
        for (int before = 0; before < 4; before++) {
            fresh();
            if (before == 0 || before == 3) call("family", feed(all + "x"));
            if (before == 1 || before == 3) family(all);
            if (before == 2 || before == 3) {
                family(all);
                family(PUPPET);
            }
            is(2, "family", feed(little));
            is(3, "told", 0);
            is(2, "told", 2);
            is(3, "speaks");
            for (int h = 0; h < 3; h++) {
                is(0, "hand", h, 4);
                is(0, "net", h);
                for (int g = 0; g < 3; g++) is(0, "owes", h, g);
            }
            is(3, "casts", 0);
            is(6, "casts", 1);
            is(1, "act", 0, 1);
            is(3, "act", 1, 1);
            is(0, "chooses", 1);
            is(3, "orphans");
            answer("years", 1);
            is(8, "puppet", 0, 2);
            is(2, "puppet", 1, 3);
        }
    }

    private void familyKeepsOrClears() {
        against(3, "(YEAR 0; no LAW, BOOK, IMAGES, nothing to undo)");
        rich();
        is(3, "told", 3);
        is(3, "told", 6);
        is(2, "count", 0);
        is(3, "count", 2);
        // a text of the one letter that comes first is a fault, and empties the tape
        call("law", 1);
        int n = feed(RICH);
        is(3, "family", n);
        is(0, "told", 3);
        is(0, "told", 6);
        is(0, "count", 0);
        is(0, "count", 2);
        is(NONE, "restore");
        is(0, "undo", 60);
        is(3, "told", 4);
        is(19, "told", 5);
        is(1, "hand", 1, 3);
        is(6, "hand", 1, 4);
        is(NONE, "puppet", 1, 5);
        is(NONE, "chose", 3);
        is(NONE, "since", 3, 1);
        answer("years", 1);
        // by limp * 2 - works * 3 + kin, whatever the year: 10 - 3, and 16 - 3 + 1
        is(7, "score", 2, 0);
        is(14, "score", 2, 2);

        against(3, "or the FAULT less 10 (all but the TAPE stays).");
        String[] faulty = {HAND + PUPPET + "^x", HAND + PUPPET + "wear ^10;", HAND.repeat(9) + "^hand 1 0 0;"};
        for (int kind = CANNOT_STAND; kind <= TOO_MANY; kind++) {
            faultAndNothingElse("family", kind, faulty[kind - 1]);
        }
    }

    private void faultAndNothingElse(String what, int kind, String marked) {
        rich();
        // a text of the one letter that comes first is a fault, and empties the tape
        call("law", 1);
        int place = marked.indexOf('^');
        read(what, marked.replace("^", ""), kind - 10, place);
        is(0, "count", 1);
        isUntouched(false, what + " '" + marked + "'");
    }

    private void clauses() {
        against(3, "CLAUSE \";\" }, at most 60.");
        fine(0, "");
        fine(0, "wear 1;");
        fine(0, "wear1;".repeat(60));
        fine(0, "wear1;".repeat(60) + "   ");
        fault(TOO_MANY, "wear1;".repeat(60) + "^wear1;");
        fault(TOO_MANY, "wear1;".repeat(60) + " ^wear1;");
        fault(TOO_MANY, "wear1;".repeat(60) + "^hand");
        fault(CANNOT_STAND, "wear 1^");
        fault(CANNOT_STAND, "wear 1^wear 1;");
        fault(CANNOT_STAND, "wear 1^,");
        fault(CANNOT_STAND, "wear 1;^;");
        fault(CANNOT_STAND, "^;");
    }

    private void hands() {
        against(3, "CLAUSE: \"hand\" L B D (HANDS, numbered from 0 on, 9 at most:");
        StringBuilder nine = new StringBuilder();
        for (int h = 0; h < 9; h++) {
            fine(0, nine.toString());
            is(h, "told", 0);
            noElement("hand", h, 0);
            nine.append("hand ").append(9 - h).append(' ').append(h).append(' ').append(50 + h).append(';');
        }
        fine(0, nine.toString());
        is(9, "told", 0);
        for (int h = 0; h < 9; h++) {
            is(9 - h, "hand", h, 0);
            is(h, "hand", h, 1);
            is(50 + h, "hand", h, 2);
        }
        noElement("hand", 9, 0);
        fault(TOO_MANY, nine + "^hand 1 0 0;");
        fault(CANNOT_STAND, "hand^;");
        fault(CANNOT_STAND, "hand 1^;");
        fault(CANNOT_STAND, "hand 1 0^;");
        fault(CANNOT_STAND, "hand 1 0 0 ^0;");

        against(3, "LIMP L, 0 to 9,");
        fine(0, "hand 0 0 0;");
        is(0, "hand", 0, 0);
        fine(0, "hand 9 0 0;");
        is(9, "hand", 0, 0);
        fault(NONE_SUCH, "hand ^10 0 0;");
        fault(CANNOT_STAND, "hand ^-1 0 0;");

        against(3, "born in YEAR B, 0 to 40,");
        fine(0, "hand 1 0 0;");
        is(0, "hand", 0, 1);
        is(1, "hand", 0, 3);
        fine(0, "hand 1 1 0;");
        is(0, "hand", 0, 3);
        fine(0, "hand 1 40 0;");
        is(40, "hand", 0, 1);
        fault(NONE_SUCH, "hand 1 ^41 0;");
        fault(NONE_SUCH, "hand 1 ^41 60;");

        against(3, "dies in YEAR D, more than B, 60 at most, or 0: not),");
        for (int[] life : new int[][] {{0, 1}, {0, 60}, {1, 2}, {39, 40}, {40, 41}, {40, 60}, {0, 0}, {40, 0}}) {
            fine(0, "hand 1 " + life[0] + " " + life[1] + ";");
            is(life[1], "hand", 0, 2);
        }
        for (int[] life : new int[][] {{1, 1}, {40, 40}, {40, 39}, {2, 1}, {0, 61}, {40, 61}, {0, 100}}) {
            fault(NONE_SUCH, "hand 1 " + life[0] + " ^" + life[1] + ";");
        }
        fine(0, "hand 1 0 60;hand 1 0 0;");
        answer("years", 59);
        is(1, "hand", 0, 3);
        answer("years", 1);
        is(2, "hand", 0, 3);
        answer("years", 60);
        answer("years", 60);
        is(200, "years", 60);
        is(1, "hand", 1, 3);
    }

    private void puppets() {
        against(3, "\"puppet\" F K S (PUPPETS likewise, 8:");
        StringBuilder eight = new StringBuilder();
        for (int p = 0; p < 8; p++) {
            fine(p, eight.toString());
            is(p, "told", 1);
            noElement("puppet", p, 0);
            eight.append("puppet ").append(15 - p).append(' ').append(1 + p % 2).append(' ').append(20 + p).append(';');
        }
        fine(8, eight.toString());
        for (int p = 0; p < 8; p++) {
            is(15 - p, "puppet", p, 0);
            is(1 + p % 2, "puppet", p, 1);
            is(20 + p, "puppet", p, 2);
        }
        noElement("puppet", 8, 0);
        fault(TOO_MANY, eight + "^puppet 1 1 1;");
        fault(CANNOT_STAND, "puppet^;");
        fault(CANNOT_STAND, "puppet 1^;");
        fault(CANNOT_STAND, "puppet 1 1^;");
        fault(CANNOT_STAND, "puppet 1 1 1 ^1;");

        against(3, "its FALL F, 0 to 15,");
        fine(1, "puppet 0 1 1;");
        is(0, "puppet", 0, 0);
        fine(1, "puppet 15 1 1;");
        is(15, "puppet", 0, 0);
        fault(NONE_SUCH, "puppet ^16 1 1;");

        against(3, "needs K HANDS, 1 or 2,");
        fine(1, "puppet 1 1 1;");
        is(1, "puppet", 0, 1);
        fine(1, "puppet 1 2 1;");
        is(2, "puppet", 0, 1);
        fault(NONE_SUCH, "puppet 1 ^0 1;");
        fault(NONE_SUCH, "puppet 1 ^3 1;");

        against(3, "has S STRINGS, 0 to 30),");
        fine(1, "puppet 1 1 0;");
        is(0, "puppet", 0, 2);
        fine(1, "puppet 1 1 30;");
        is(30, "puppet", 0, 2);
        fault(NONE_SUCH, "puppet 1 1 ^31;");
    }

    private void works() {
        String some = HAND + HAND + HAND + "hand 1 1 0;" + PUPPET + "puppet 1 2 1;";

        against(3, "\"works\" H P (HAND H works PUPPET P at first;");
        fine(2, some + "works 1 0;works 1 1;works 2 1;");
        is(0, "hand", 0, 4);
        is(3, "hand", 1, 4);
        is(2, "hand", 2, 4);
        is(2, "puppet", 0, 3);
        is(6, "puppet", 1, 3);
        fault(CANNOT_STAND, some + "works^;");
        fault(CANNOT_STAND, some + "works 0^;");
        fault(CANNOT_STAND, some + "works 0 0 ^0;");
        // the three PUPPETS that a HAND may choose are no bound of what is told
        fine(8, HAND + PUPPET.repeat(8) + "works 0 0;works 0 1;works 0 2;works 0 3;works 0 4;works 0 5;works 0 6;works 0 7;");
        is(255, "hand", 0, 4);

        against(3, "born in YEAR 0,");
        fine(2, some + "works 2 0;");
        fault(NONE_SUCH, some + "works 3 ^0;");
        fault(NONE_SUCH, "hand 1 40 0;" + PUPPET + "works 0 ^0;");
        fault(CANNOT_STAND, some + "works 3 ^;");

        against(3, "not twice,");
        fault(NONE_SUCH, some + "works 0 1;works 0 ^1;");
        fine(2, some + "works 0 0;works 0 1;");

        against(3, "no more than it needs,");
        fine(2, some + "works 0 0;works 0 1;works 1 1;");
        fault(NONE_SUCH, some + "works 0 0;works 1 ^0;");
        fault(NONE_SUCH, some + "works 0 1;works 1 1;works 2 ^1;");

        against(3, "no quarrel told ahead),");
        fault(NONE_SUCH, some + "quarrel 0 1;works 0 ^1;");
        fine(2, some + "quarrel 0 0;works 0 1;");
        fine(2, some + "quarrel 1 1;works 0 1;");
        fine(2, some + "works 0 1;quarrel 1 1;");
    }

    private void quarrels() {
        String some = HAND + HAND + PUPPET + PUPPET;

        against(3, "\"quarrel\" H P (H never works P;");
        fine(2, some + "quarrel 0 0;");
        is(1, "chooses", 0);
        answer("dies", 1);
        is(60, "years", 60);
        is(0, "puppet", 0, 3);
        is(1, "puppet", 1, 3);
        fine(2, some + "quarrel 0 0;quarrel 0 0;quarrel 1 0;quarrel 0 1;quarrel 1 1;");
        is(NONE, "chooses", 0);
        fine(1, "hand 1 9 0;" + PUPPET + "quarrel 0 0;");
        fault(CANNOT_STAND, some + "quarrel^;");
        fault(CANNOT_STAND, some + "quarrel 0^;");
        fault(CANNOT_STAND, some + "quarrel 0 0 ^0;");

        against(3, "not who works it at first),");
        fault(NONE_SUCH, some + "works 0 0;quarrel 0 ^0;");
        fine(2, some + "works 0 0;quarrel 0 1;");
        fine(2, some + "works 0 0;quarrel 1 0;");
    }

    private void silence() {
        String some = HAND + HAND + HAND;

        against(3, "\"silent\" H G (H and G, not one, do not speak),");
        fine(0, some + "silent 0 1;");
        is(2, "speaks");
        is(2, "nights");
        fine(0, some + "silent 1 0;");
        is(2, "speaks");
        fine(0, some + "silent 0 1;silent 0 1;silent 1 0;");
        is(2, "speaks");
        fault(NONE_SUCH, some + "silent 0 ^0;");
        fault(NONE_SUCH, some + "silent 2 ^2;");
        fault(CANNOT_STAND, some + "silent^;");
        fault(CANNOT_STAND, some + "silent 0^;");
        fault(CANNOT_STAND, some + "silent 0 1 ^2;");
        fault(CANNOT_STAND, some + "silent 0 ^h;");
    }

    private void acts() {
        against(3, "\"act\" N { P } \"end\" (ACTS likewise, 6:");
        StringBuilder six = new StringBuilder(PUPPET + PUPPET);
        for (int a = 0; a < 6; a++) {
            fine(2, six.toString());
            is(a, "told", 2);
            noElement("act", a, 0);
            six.append("act ").append(9 - a).append(' ').append(a % 2).append(" end;");
        }
        fine(2, six.toString());
        is(6, "told", 2);
        for (int a = 0; a < 6; a++) {
            is(9 - a, "act", a, 0);
            is(1 << a % 2, "act", a, 1);
        }
        noElement("act", 6, 0);
        fault(TOO_MANY, six + "^act 1 0 end;");
        fault(CANNOT_STAND, PUPPET + "act^;");
        fault(CANNOT_STAND, PUPPET + "act ^end;");
        fault(CANNOT_STAND, PUPPET + "act 1^;");
        fault(CANNOT_STAND, PUPPET + "act 1 ^;");
        fault(CANNOT_STAND, PUPPET + "act 1 0^;");
        fault(CANNOT_STAND, PUPPET + "act 1 0 ^act;");
        fault(CANNOT_STAND, PUPPET + "act 1 0 end^0 ;");
        fault(CANNOT_STAND, PUPPET + "act 1 0 end ^end;");

        against(3, "LAUGHS N, 0 to 9;");
        fine(1, PUPPET + "act 0 0 end;");
        is(0, "act", 0, 0);
        fine(1, PUPPET + "act 9 0 end;");
        is(9, "act", 0, 0);
        fault(NONE_SUCH, PUPPET + "act ^10 0 end;");

        against(3, "PUPPETS in it, 1 to 6, none twice),");
        String eight = PUPPET.repeat(8);
        fault(CANNOT_STAND, eight + "act 1 ^end;");
        fault(CANNOT_STAND, eight + "act 1^");
        fine(8, eight + "act 1 7 end;");
        is(128, "act", 0, 1);
        fine(8, eight + "act 1 7 5 3 1 2 4 end;");
        is(0xbe, "act", 0, 1);
        fault(TOO_MANY, eight + "act 1 7 5 3 1 2 4 ^0 end;");
        fault(NONE_SUCH, eight + "act 1 7 ^7 end;");
        fault(NONE_SUCH, eight + "act 1 7 5 3 1 2 ^7 end;");
        fine(8, eight + "act 1 7 end;act 1 7 end;");
    }

    private void debts() {
        String some = HAND + HAND + HAND;

        against(3, "\"owes\" H G N (H owes G, not himself,");
        fine(0, some + "owes 0 1 5;");
        is(5, "owes", 0, 1);
        is(0, "owes", 1, 0);
        fault(NONE_SUCH, some + "owes 0 ^0 5;");
        fault(NONE_SUCH, some + "owes 2 ^2;");
        fault(CANNOT_STAND, some + "owes^;");
        fault(CANNOT_STAND, some + "owes 0^;");
        fault(CANNOT_STAND, some + "owes 0 1^;");
        fault(CANNOT_STAND, some + "owes 0 1 5 ^5;");

        against(3, "N pieces of wood, 1 to 99;");
        fine(0, some + "owes 0 1 1;");
        is(1, "owes", 0, 1);
        fine(0, some + "owes 0 1 99;");
        is(99, "owes", 0, 1);
        fault(NONE_SUCH, some + "owes 0 1 ^0;");
        fault(NONE_SUCH, some + "owes 0 1 ^100;");

        against(3, "more: they add up, 999 at most),");
        fine(0, some + "owes 0 1 99;owes 0 2 7;owes 1 0 3;owes 0 1 1;");
        is(100, "owes", 0, 1);
        is(7, "owes", 0, 2);
        is(3, "owes", 1, 0);
        fine(0, some + "owes 0 1 99;".repeat(10) + "owes 0 1 8;");
        is(998, "owes", 0, 1);
        fine(0, some + "owes 0 1 99;".repeat(10) + "owes 0 1 9;");
        is(999, "owes", 0, 1);
        fine(0, some + "owes 0 1 99;".repeat(10) + "owes 0 1 9;owes 0 1 1;");
        is(999, "owes", 0, 1);
        fine(0, some + "owes 0 1 99;".repeat(11));
        is(999, "owes", 0, 1);
        fine(0, some + "owes 0 1 99;".repeat(30) + "owes 1 0 99;owes 0 2 99;");
        is(999, "owes", 0, 1);
        is(99, "owes", 1, 0);
        is(99, "owes", 0, 2);
    }

    private void wear() {
        String worked = HAND + "puppet 1 1 30;works 0 0;";

        against(3, "or \"wear\" Q (0 to 9;");
        worn(30, worked + "wear 0;");
        worn(21, worked + "wear 9;");
        worn(29, worked + "wear 1;");
        fault(NONE_SUCH, "wear ^10;");
        fault(CANNOT_STAND, "wear^;");
        fault(CANNOT_STAND, "wear 1 ^1;");

        against(3, "1 without;");
        worn(29, worked);
        told("wear 5;");
        family(worked);
        is(1, "years", 1);
        is(29, "puppet", 0, 2);

        against(3, "the last counts).");
        worn(30, worked + "wear 9;wear 0;");
        worn(26, "wear 9;" + worked + "wear 5;wear 4;");
        worn(24, "wear 6;" + worked);
    }

    private void worn(int want, String text) {
        told(text);
        is(1, "years", 1);
        is(want, "puppet", 0, 2);
    }

    private void toldAhead() {
        against(3, "H, G, P: told ahead.");
        String some = HAND + HAND + PUPPET + PUPPET;
        for (String word : new String[] {"works", "quarrel"}) {
            fine(2, some + word + " 1 1;");
            fault(NONE_SUCH, some + word + " ^2 0;");
            fault(NONE_SUCH, some + word + " 0 ^2;");
            fault(NONE_SUCH, PUPPET + word + " ^0 0;" + HAND);
            fault(NONE_SUCH, HAND + word + " 0 ^0;" + PUPPET);
            fault(NONE_SUCH, some + word + " ^2 0;" + HAND);
            fault(NONE_SUCH, some + word + " 0 ^2;" + PUPPET);
        }
        for (String word : new String[] {"silent 0 1", "owes 0 1 1"}) {
            fine(2, some + word + ";");
            fault(NONE_SUCH, some + word.replace("0 1", "^2 1") + ";" + HAND);
            fault(NONE_SUCH, some + word.replace("0 1", "1 ^2") + ";" + HAND);
            fault(NONE_SUCH, word.replace("0 1", "^0 1") + ";" + HAND + HAND);
            fault(NONE_SUCH, HAND + word.replace("0 1", "0 ^1") + ";" + HAND);
        }
        fine(2, some + "act 1 1 0 end;");
        fault(NONE_SUCH, some + "act 1 0 ^2 end;" + PUPPET);
        fault(NONE_SUCH, "act 1 ^0 end;" + PUPPET);
    }

    private void numbers() {
        against(3, "Numbers: digits, as many as stand there;");
        fine(0, "hand 000000000000000000000000009 00 0060;");
        is(9, "hand", 0, 0);
        is(60, "hand", 0, 2);
        fine(0, "wear" + "0".repeat(590) + "3;");
        fine(1, HAND + PUPPET + "works 00 000;act 01 00end;");
        for (String none : new String[] {"10", "99", "100000", "999999", "1000001", "2147483648", "4294967296", "4294967300",
            "18446744073709551616", "99999999999999999999999999999999", "10000000000", "1" + "0".repeat(300)}) {
            fault(NONE_SUCH, "hand ^" + none + " 0 0;");
            fault(NONE_SUCH, "wear ^" + none + ";");
        }
        fault(NONE_SUCH, "wear ^" + "9".repeat(500) + ";");
        fault(NONE_SUCH, "puppet 1 ^4294967297 1;");
        fault(CANNOT_STAND, "wear 1 ^2;");
        fault(CANNOT_STAND, "hand ^+1 0 0;");
        fault(CANNOT_STAND, "hand 1^.5 0 0;");
        fault(CANNOT_STAND, "hand 1^x 0 0;");
        fault(CANNOT_STAND, "hand ^/ 0 0;");
        fault(CANNOT_STAND, "hand ^: 0 0;");
        fault(CANNOT_STAND, "hand 1^: 0 0;");
        fine(0, "hand5 0 0;wear3;");
        is(5, "hand", 0, 0);
        fault(CANNOT_STAND, "^5hand 0 0;");
    }

    private void words() {
        against(3, "WORDS: small letters, as many as stand there;");
        fault(CANNOT_STAND, "^hands 1 0 0;");
        fault(CANNOT_STAND, "^han 1 0 0;");
        fault(CANNOT_STAND, "^h");
        fault(CANNOT_STAND, "^handhand 1 0 0;");
        fault(CANNOT_STAND, "^Hand 1 0 0;");
        fault(CANNOT_STAND, "^hAnd 1 0 0;");
        fault(CANNOT_STAND, "hand^A 1 0 0;");
        fault(CANNOT_STAND, "^" + "z".repeat(600));
        fault(CANNOT_STAND, "^handz 1 0 0;");
        fault(CANNOT_STAND, "^handa 1 0 0;");
        for (String word : new String[] {"hand 1 0 0;", "puppet 1 1 1;", "works 0 0;", "quarrel 0 0;", "silent 0 1;", "act 1 0 end;",
            "owes 0 1 1;", "wear 1;"}) {
            fine(word.startsWith("puppet") ? 2 : 1, HAND + HAND + PUPPET + word);
            for (int i = 0; i < word.indexOf(' '); i++) {
                fault(CANNOT_STAND, HAND + HAND + PUPPET + "^" + word.substring(0, i) + 'z' + word.substring(i + 1));
                fault(CANNOT_STAND, HAND + HAND + PUPPET + "^" + word.substring(0, i) + word.substring(i + 1));
            }
        }
        fault(CANNOT_STAND, "^` 1;");
        fault(CANNOT_STAND, "^{ 1;");
        fault(CANNOT_STAND, "wear^` 1;");
        fault(CANNOT_STAND, "wear^{ 1;");
        fault(CANNOT_STAND, PUPPET + "act 1 0 ^ends;");
        fault(CANNOT_STAND, PUPPET + "act 1 0 ^en;");
        fault(CANNOT_STAND, PUPPET + "act 1 0 ^hand;");
        for (String word : new String[] {"end", "limp", "kin", "years", "law", "work", "owe", "quarrels", "silents", "wears", "acts",
            "puppets", "a", "z", "handpuppet"}) {
            fault(CANNOT_STAND, HAND + PUPPET + "^" + word + " 0 0;");
        }
    }

    private void blanks() {
        against(3, "blanks (32) may stand ahead of all these, and at the end.");
        fine(1, "   hand   1   0   0   ;   puppet  1  1  1  ;  act  1  0  end  ;   wear  2  ;   ");
        is(1, "told", 2);
        fine(1, "hand 1 0 0;puppet1 1 1;act1 0end;wear2;");
        fine(0, "     ");
        fine(0, " ");
        fault(CANNOT_STAND, "hand 1 0 0^");
        fault(CANNOT_STAND, "^ha nd 1 0 0;");
        fault(CANNOT_STAND, PUPPET + "act 1 0 ^e nd;");
        for (char other : new char[] {0, 9, 10, 13, 31, 33, 127, 160, 255}) {
            fault(CANNOT_STAND, "^" + other + "wear 1;");
            fault(CANNOT_STAND, "wear^" + other + "1;");
            fault(CANNOT_STAND, "wear 1^" + other + ";");
            fault(CANNOT_STAND, "wear 1;^" + other);
        }
    }

    private void firstFromTheLeft() {
        against(6, "FAULTS, the first from the left, at its first byte:");
        fault(NONE_SUCH, "hand ^10 41 61 x");
        fault(NONE_SUCH, "hand 1 ^41 0;hand 10 0 0;");
        fault(NONE_SUCH, HAND + "wear ^010 10;");
        fault(CANNOT_STAND, "wear 1 ^x 10;");
        fault(CANNOT_STAND, "wear 1;^x;" + HAND.repeat(10));
        fault(TOO_MANY, HAND.repeat(9) + "^hand 10 0 0;x");
        fault(NONE_SUCH, HAND.repeat(8) + "hand ^123 0 0;" + HAND);
        fault(NONE_SUCH, HAND + PUPPET + "works ^1 1;");
        fault(NONE_SUCH, "wear ^10");
        fault(NONE_SUCH, PUPPET.repeat(8) + "act 1 ^8 0 1 2 3 4 5 6 end;");
    }

    private void cannotStand() {
        against(6, "1 what can't stand there (at the length, if the text ends too early);");
        for (String early : new String[] {"hand^", "hand 1^", "hand 1 0^", "hand 1 0 0^", "puppet^", "puppet 1 1 1^", "wear^", "wear 1^",
            "hand 1 0 0   ^", "hand ^", "puppet 1 1 1;act 1 0^", "puppet 1 1 1;act 1 0 end^", "puppet 1 1 1;act 1 ^", "silent^"}) {
            fault(CANNOT_STAND, early);
        }
        fault(CANNOT_STAND, "^han");
        fault(CANNOT_STAND, "wear 1;  ^han");
        fault(CANNOT_STAND, "wear" + " ".repeat(596) + "^");
        fault(CANNOT_STAND, "^1;");
        fault(CANNOT_STAND, "hand ^hand 1 0 0;");
        fault(CANNOT_STAND, "hand 1 0 0^hand 1 0 0;");
        fault(CANNOT_STAND, "hand ^;");
        fault(CANNOT_STAND, "^(");
        fault(CANNOT_STAND, "^;wear 1;");
    }

    private void noneSuch() {
        against(6, "2 a number that is none such (at the second of two);");
        fault(NONE_SUCH, "hand ^10 0 0;");
        fault(NONE_SUCH, "hand 1 9 ^9;");
        fault(NONE_SUCH, HAND + PUPPET + "works 0 0;works 0 ^0;");
        fault(NONE_SUCH, "hand 1 2 0;" + PUPPET + "works 0 ^0;");
        fault(NONE_SUCH, HAND + PUPPET + "works 0 0;quarrel 0 ^0;");
        fault(NONE_SUCH, HAND + "silent 0 ^0;");
        fault(NONE_SUCH, HAND + "owes 0 ^0 1;");
        fault(NONE_SUCH, HAND + "owes 0 ^0 100;");
        fault(NONE_SUCH, PUPPET + PUPPET + "act 1 0 1 ^0 end;");
        fault(NONE_SUCH, HAND + PUPPET + "works 0 ^00000001;");
    }

    private void tooMany() {
        against(6, "3 a CLAUSE, HAND, PUPPET or ACT (at its word),");
        fault(TOO_MANY, "wear1;".repeat(60) + "  ^puppet 1 1 1;");
        fault(TOO_MANY, HAND.repeat(9) + "  ^hand");
        fault(TOO_MANY, PUPPET.repeat(8) + " ^puppet 99");
        fault(TOO_MANY, PUPPET + "act 1 0 end;".repeat(6) + " ^act;");
        fine(8, HAND.repeat(9) + PUPPET.repeat(8) + "act 1 0 end;".repeat(6) + "wear 1;".repeat(37));

        against(6, "a 7th PUPPET of an ACT (at it),");
        fine(8, PUPPET.repeat(8) + "act 1 0 1 2 3 4 5 end;");
        fault(TOO_MANY, PUPPET.repeat(8) + "act 1 0 1 2 3 4 5 ^7 end;");
        fault(TOO_MANY, PUPPET.repeat(7) + "act 1 0 1 2 3 4 5  ^6");

        against(6, "a line too many (at its Y),");
        told(HAND + PUPPET);
        bookFault(TOO_MANY, "9 0 0;".repeat(12) + " ^60 0 0;");

        against(6, "of one the least.");
        fault(CANNOT_STAND, "wear1;".repeat(60) + "^weak1;");
        fault(CANNOT_STAND, "wear1;".repeat(60) + "^1;");
        fault(CANNOT_STAND, "wear1;".repeat(60) + "^;");
        fault(CANNOT_STAND, HAND.repeat(9) + "^hands 1 0 0;");
        fault(NONE_SUCH, PUPPET.repeat(8) + "act 1 0 1 2 3 4 5 ^8 end;");
        fault(NONE_SUCH, PUPPET.repeat(8) + "act 1 0 1 2 3 4 5 ^5 end;");
        fault(CANNOT_STAND, PUPPET.repeat(8) + "act 1 0 1 2 3 4 5 ^x end;");
        told(HAND + PUPPET);
        bookFault(NONE_SUCH, "9 0 0;".repeat(12) + "^61 0 0;");
        bookFault(NONE_SUCH, "9 0 0;".repeat(12) + "^0 0 0;");
        bookFault(CANNOT_STAND, "9 0 0;".repeat(12) + "^x");
    }

    private void books() {
        against(5, "A BOOK is a text of up to 150 bytes:");
        told(HAND + PUPPET);
        read("book", " ".repeat(144) + "1 0 0;", 1, NONE);
        read("book", " ".repeat(150), 0, NONE);
        bookFault(CANNOT_STAND, " ".repeat(145) + "1 0 0^");
        feed(" ".repeat(145) + "1 0 0;");
        noArgument("book", 151);
        is(160, "count", 1);

        against(5, "Likewise the BOOK (n to 150): how many lines.");
        is(-9, "book", 150);
        is(150, "fault");
        is(0, "count", 1);
        for (int n : new int[] {1, -1, 151, LEAST, GREATEST}) noArgument("book", n);
        is(0, "book", 0);
        feed("1 0 0;1 0 0; 9 0 0;  ");
        noArgument("book", 41);
        is(40, "count", 1);
        is(2, "book", 12);
        is(2, "told", 6);
        is(0, "count", 1);
        feed("1 0 0;1 0 0; 9 0 0;  ");
        is(0, "book", 0);
        is(0, "told", 6);
        String[] faulty = {"1 0 0;^x", "1 0 0;2 ^3 0;", "1 0 0;".repeat(12) + "^1 0 0;"};
        for (int kind = CANNOT_STAND; kind <= TOO_MANY; kind++) faultAndNothingElse("book", kind, faulty[kind - 1]);
        for (int n : new int[] {21, -1, 151}) {
            rich();
            noArgument("book", n);
            isUntouched(true, "book(" + n + ")");
        }
        // a book that was told changes nothing but the book
        told(HAND + PUPPET);
        answer("image");
        answer("years", 2);
        book("1 0 0;");
        is(1, "count", 0);
        is(2, "count", 2);
        is(2, "told", 3);
    }

    private void bookLines() {
        against(5, "{ Y P H \";\" }, 12 lines at most:");
        told(HAND + HAND + PUPPET + PUPPET + PUPPET);
        read("book", "", 0, NONE);
        read("book", "1 2 0;", 1, NONE);
        read("book", "1 0 0;".repeat(12), 12, NONE);
        read("book", "1 0 0 ; ".repeat(12) + "  ", 12, NONE);
        is(12, "told", 6);
        bookFault(TOO_MANY, "1 0 0;".repeat(12) + "^1 0 0;");
        bookFault(TOO_MANY, "1 0 0;".repeat(12) + "^1");
        is(12, "told", 6);
        bookFault(CANNOT_STAND, "1 0 0^");
        bookFault(CANNOT_STAND, "1 0^;");
        bookFault(CANNOT_STAND, "1^;");
        bookFault(CANNOT_STAND, "^;");
        bookFault(CANNOT_STAND, "1 0 0 ^0;");
        bookFault(CANNOT_STAND, "1 0 0;^;");
        bookFault(CANNOT_STAND, "^hand 1 0 0;");

        against(5, "behind YEAR Y (1 to 60)");
        read("book", "1 0 0;60 0 0;", 2, NONE);
        bookFault(NONE_SUCH, "^0 0 0;");
        bookFault(NONE_SUCH, "^61 0 0;");
        bookFault(NONE_SUCH, "^4294967297 0 0;");

        against(5, "H was one of the HANDS of P.");
        bookFault(NONE_SUCH, "1 ^3 0;");
        bookFault(NONE_SUCH, "1 0 ^2;");
        read("book", "1 2 1;", 1, NONE);
        fresh();
        bookFault(NONE_SUCH, "1 ^0 0;");
        told(PUPPET);
        bookFault(NONE_SUCH, "1 0 ^0;");
        // puppet 1 needs two: behind year 1 both are its HANDS
        told("hand 2 0 0;hand 1 0 0;hand 9 2 0;puppet 1 1 9;puppet 1 2 9;works 0 0;");
        book("1 1 0;1 1 1;");
        is(2, "right");
        book("1 1 2;");
        is(0, "right");
    }

    private void places() {
        against(6, "The place of the FAULT of the latest text;");
        told(HAND + PUPPET);
        bookFault(CANNOT_STAND, "1 0 ^x");
        noArgument("family", 1);
        noArgument("law", 1);
        noArgument("book", 151);
        is(4, "fault");
        lawFault(CANNOT_STAND, "limp ^x");
        is(5, "fault");
        call("years", 1);
        call("image");
        bookFault(NONE_SUCH, "^0");
        call("restore");
        is(0, "fault");
        faultOfFamily("wear 1;  ^x", 9);

        against(6, "NONE without.");
        fresh();
        is(NONE, "fault");
        noArgument("family", 1);
        is(NONE, "fault");
        for (String what : new String[] {"family", "law", "book"}) {
            told(HAND + PUPPET);
            lawFault(CANNOT_STAND, "1 ^x");
            read(what, what.equals("family") ? HAND : what.equals("law") ? "1" : "1 0 0;", what.equals("family") ? 0 : 1, NONE);
        }
    }

    private void faultOfFamily(String marked, int place) {
        read("family", marked.replace("^", ""), CANNOT_STAND - 10, place);
    }
}
