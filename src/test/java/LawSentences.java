/** Promises 4, 11 and 12: the law, what a hand scores by it, and whom a puppet would choose. */
final class LawSentences extends Sentences {
    /** In year 2 hand 2 is not born; strings are 5, 0 and 9; works {0}, {1}, kin by puppet 0. */
    private static final String LAWFUL = "hand 4 0 0;hand 7 0 9;hand 1 5 0;puppet 6 2 11;puppet 3 1 5;puppet 2 2 9;"
        + "works 0 0;works 1 0;works 0 1;quarrel 0 2;quarrel 1 2;wear 3;";
    private static final String LEAST = "512*512*512*16";
    private static final String GREATEST = "512*512*512*16-1";

    @Override
    void hold() {
        bytes();
        likewise();
        nothingMore();
        without();
        sums();
        units();
        values();
        kin();
        brackets();
        open();
        wrapping();
        dividing();
        scoresNow();
        choices();
    }

    private void lawful() {
        told(LAWFUL);
        answer("years", 2);
    }

    /** The law is read, and gives hand 1 so much for puppet 0. */
    private void scores(int want, String text) {
        read("law", text, 1, NONE);
        is(want, "score", 0, 1);
    }

    private void bytes() {
        against(4, "A LAW is a text of up to 150 bytes:");
        lawful();
        scores(8, " ".repeat(149) + "8");
        scores(75, "1" + "+1".repeat(74) + " ");
        scores(-73, "1" + "-1".repeat(74) + " ");
        scores(1, " ".repeat(136) + "limp-7+(1*1)*1");
        feed(" ".repeat(150) + "8");
        noArgument("law", 151);
        is(160, "count", 1);
    }

    private void likewise() {
        against(4, "Likewise the LAW (n to 150; YEARS gone by stay): 1.");
        lawful();
        is(2, "count", 2);
        read("law", "7", 1, NONE);
        is(0, "count", 1);
        is(2, "told", 3);
        is(5, "puppet", 0, 2);
        is(0, "count", 2);
        is(0, "undo", 60);
        for (int n : new int[] {1, -1, 151, Integer.MIN_VALUE, Integer.MAX_VALUE}) noArgument("law", n);
        feed("limp+1 and what is no");
        noArgument("law", 41);
        is(40, "count", 1);
        is(1, "law", 6);
        is(8, "score", 0, 1);
        is(0, "count", 1);
        String[] faulty = {"1 ^1", "^1000", "((((((^(1)))))))"};
        for (int kind = CANNOT_STAND; kind <= TOO_MANY; kind++) {
            rich();
            // a text of the one letter that comes first is a fault, and empties the tape
            call("law", 1);
            lawFault(kind, faulty[kind - 1]);
            is(0, "count", 1);
            isUntouched(false, "law " + faulty[kind - 1]);
        }
        for (int n : new int[] {21, -1, 151}) {
            rich();
            noArgument("law", n);
            isUntouched(true, "law(" + n + ")");
        }
    }

    private void nothingMore() {
        against(4, "E, at the end nothing more;");
        lawful();
        scores(7, "limp");
        scores(7, "  limp   ");
        lawFault(CANNOT_STAND, "^");
        lawFault(CANNOT_STAND, "   ^");
        lawFault(CANNOT_STAND, "limp ^limp");
        lawFault(CANNOT_STAND, "limp ^7");
        lawFault(CANNOT_STAND, "7 ^7");
        lawFault(CANNOT_STAND, "7^limp");
        lawFault(CANNOT_STAND, "limp^;");
        lawFault(CANNOT_STAND, "limp^)");
        lawFault(CANNOT_STAND, "limp^]");
        lawFault(CANNOT_STAND, "limp^,limp");
        lawFault(CANNOT_STAND, "(limp)^(limp)");
        lawFault(CANNOT_STAND, "7 ^\t");
        is(7, "score", 0, 1);
    }

    private void without() {
        against(4, "without: limp * 2 - works * 3 + kin.");
        lawful();
        // 14 - 3, and 1 more for puppet 1, whose hand 0 works puppet 0 with him
        is(11, "score", 0, 1);
        is(12, "score", 1, 1);
        is(8 - 6, "score", 2, 0);
        is(2, "score", 0, 2);
        scores(7, "7");
        family(LAWFUL);
        is(11, "score", 0, 1);
    }

    private void sums() {
        against(4, "E: T { + or - T }.");
        lawful();
        scores(5, "2+3");
        scores(-1, "2 - 3");
        scores(2, "9-4-3");
        scores(8, "9-4+3");
        scores(2, "9 - (4 + 3)");
        for (String sum : new String[] {"^+1", "^-1", "1+^", "1-^", "1+^+1", "1-^-1", "1+^-1", "limp + ^", "1^&1"}) {
            lawFault(CANNOT_STAND, sum);
        }

        against(4, "T: U { * or / or % U }.");
        scores(6, "2*3");
        scores(3, "7/2");
        scores(1, "7%2");
        scores(14, "2+3*4");
        scores(10, "2*3+4");
        scores(9, "12/4*3");
        scores(6, "7%4*2");
        scores(1, "20/4%4");
        scores(2, "100%7*3/3");
        scores(7, "limp*1/1%8");
        for (String product : new String[] {"^*1", "1*^", "1/^", "1%^", "1*^*1", "1*^/1", "2^!2", "1%^-1", "1*^-1"}) {
            lawFault(CANNOT_STAND, product);
        }
    }

    private void units() {
        against(4, "U: N (0 to 999),");
        lawful();
        scores(0, "0");
        scores(999, "999");
        scores(999, "000000000000999");
        for (String none : new String[] {"1000", "4294967296", "18446744073709551616", "9".repeat(140)}) {
            lawFault(NONE_SUCH, "^" + none);
            lawFault(NONE_SUCH, "limp+^" + none);
        }

        against(4, "\"limp\",");
        told("hand 0 0 0;hand 9 0 0;puppet 0 1 30;puppet 15 1 0;");
        law("limp");
        is(0, "score", 0, 0);
        is(9, "score", 0, 1);

        against(4, "\"fall\" (the PUPPET's),");
        law("fall");
        is(0, "score", 0, 1);
        is(15, "score", 1, 1);

        against(4, "\"strings\" (the PUPPET's now),");
        law("strings");
        is(30, "score", 0, 0);
        is(0, "score", 1, 0);
        answer("years", 1);
        is(29, "score", 0, 0);
        answer("string", 1, 7);
        is(7, "score", 1, 0);

        for (String word : new String[] {"^limps", "^lim", "^Limp", "^li mp", "^limpfall", "^hand", "^end", "^x", "^ages", "^leasts[1,2]"}) {
            lawFault(CANNOT_STAND, word);
        }
    }

    private void values() {
        against(4, "\"age\" (YEARS since B),");
        told("hand 1 0 5;hand 1 40 0;hand 1 2 0;puppet 1 1 1;");
        law("age");
        is(0, "score", 0, 0);
        is(-40, "score", 0, 1);
        is(-2, "score", 0, 2);
        answer("years", 2);
        is(2, "score", 0, 0);
        is(-38, "score", 0, 1);
        is(0, "score", 0, 2);
        answer("years", 60);
        is(62, "score", 0, 0);
        is(22, "score", 0, 1);

        against(4, "\"works\" (how many PUPPETS he works),");
        told("hand 1 0 0;hand 1 0 0;hand 1 0 0;" + "puppet 1 1 1;".repeat(8) + "works 0 0;works 0 1;works 0 2;works 0 3;works 0 4;"
            + "works 0 5;works 0 6;works 2 7;");
        law("works");
        is(7, "score", 7, 0);
        is(0, "score", 7, 1);
        is(1, "score", 0, 2);
        answer("dies", 0);
        is(0, "score", 7, 0);

        against(4, "\"year\",");
        law("year");
        is(0, "score", 0, 1);
        for (int i = 0; i < 4; i++) answer("years", 60);
        is(200, "score", 0, 1);

        against(4, "\"number\" (the HAND's),");
        told("hand 1 0 0;".repeat(9) + "puppet 1 1 1;".repeat(8));
        law("number");
        is(0, "score", 7, 0);
        is(8, "score", 7, 8);

        against(4, "\"puppet\" (its number),");
        law("puppet");
        is(0, "score", 0, 8);
        is(7, "score", 7, 8);
    }

    private void kin() {
        against(4, "\"kin\" (1, if he works another PUPPET with a HAND that works, or worked last, this one, else 0),");
        String three = "hand 1 0 0;hand 1 0 0;hand 1 0 0;hand 1 0 0;puppet 1 1 9;puppet 1 2 9;puppet 1 2 9;";
        told(three + "works 0 0;works 0 1;works 1 1;works 2 2;");
        law("kin");
        // 1 works puppet 1 with 0, who works puppet 0
        is(1, "score", 0, 1);
        is(0, "score", 0, 2);
        is(0, "score", 0, 3);
        // by puppet 1 itself they are no kin for puppet 1: it is no other one
        is(0, "score", 1, 1);
        is(0, "score", 1, 0);
        // nobody is kin by himself
        is(0, "score", 0, 0);
        is(0, "score", 2, 2);
        // 0 worked puppet 0 last: 1 stays kin, and the others are not
        is(1, "give", 0, 0, 3);
        is(1, "score", 0, 1);
        is(0, "score", 0, 0);
        is(0, "score", 0, 2);
        is(0, "score", 0, 3);
        // then 3 works it no more and was the last: 0 is forgotten
        is(1, "give", 0, 3, 2);
        is(0, "score", 0, 1);
        is(0, "score", 0, 3);
        // who is dead works nothing with anybody
        told(three + "works 0 0;works 0 1;works 1 1;");
        law("kin");
        is(1, "score", 0, 1);
        is(2, "dies", 0);
        is(0, "puppet", 0, 5);
        is(0, "score", 0, 1);
        // whoever he is: one who works this puppet, and another one with its other hand
        told("hand 1 0 0;hand 1 0 0;puppet 1 2 9;puppet 1 2 9;works 0 0;works 1 0;works 0 1;");
        law("kin*9");
        is(0, "score", 0, 1);
        is(9, "score", 1, 1);
        is(1, "years", 1);
        is(9, "score", 0, 0);
        is(9, "score", 0, 1);
        is(9, "score", 1, 0);
    }

    private void brackets() {
        against(4, "\"least\" \"[\" E \",\" E \"]\",");
        lawful();
        scores(2, "least[2,3]");
        scores(2, "least[3,2]");
        scores(3, "least [ 3 , 3 ]");
        scores(-3, "least[0-3,0-2]");
        scores(Integer.MIN_VALUE, "least[" + LEAST + "," + GREATEST + "]");
        scores(Integer.MIN_VALUE, "least[" + GREATEST + "," + LEAST + "]");
        scores(9, "least[1,2]+4*least[2,3]");
        for (String faulty : new String[] {"least^", "least^(1,2)", "least[^", "least[^,1]", "least[1^", "least[1^]", "least[1 ^2]", "least[1^;2]",
            "least[1,^", "least[1,^]", "least[1,2^", "least[1,2^)", "least[1,2^,3]", "least ^1", "^[1,2]"}) {
            lawFault(CANNOT_STAND, faulty);
        }

        against(4, "\"most\" \"[\" E \",\" E \"]\",");
        scores(3, "most[2,3]");
        scores(3, "most[3,2]");
        scores(3, "most[3,3]");
        scores(-2, "most[0-3,0-2]");
        scores(Integer.MAX_VALUE, "most[" + LEAST + "," + GREATEST + "]");
        scores(Integer.MAX_VALUE, "most[" + GREATEST + "," + LEAST + "]");
        for (String faulty : new String[] {"most^", "most^(1,2)", "most[1^]", "most[1,2^", "most[1,2^)"}) lawFault(CANNOT_STAND, faulty);

        against(4, "or \"(\" E \")\".");
        scores(20, "(2+3)*4");
        scores(5, "((5))");
        for (String faulty : new String[] {"(^", "(^)", "(1^", "(1^]", "(1^,2)", "(1 ^1)", "(1)^)", "^)"}) lawFault(CANNOT_STAND, faulty);
    }

    private void open() {
        against(4, "or a 7th of ( least most that is open at one time;");
        lawful();
        scores(1, "((((((1))))))");
        scores(3, "((((((1))))))+((((((2))))))");
        scores(1, "least[most[least[most[least[(1),2],0],3],0],4]");
        scores(1, "least[(((((1))))),(((((2)))))]");
        scores(4, "most[(((((1))))),2]*((((((2))))))");
        lawFault(TOO_MANY, "((((((^(1)))))))");
        lawFault(TOO_MANY, "((((((^least[1,2]))))))");
        lawFault(TOO_MANY, "((((((^most[1,2]))))))");
        lawFault(TOO_MANY, "((((((^least");
        lawFault(TOO_MANY, "((((((^(");
        lawFault(TOO_MANY, "((((((  ^most 1");
        lawFault(TOO_MANY, "least[least[least[least[least[least[^least[1,2],");
        lawFault(TOO_MANY, "most[most[most[most[most[most[1,^most[1,2]");
        lawFault(TOO_MANY, "most[1,(((((^(2))))))]");
        lawFault(TOO_MANY, "((1)+(((((^(1");
        lawFault(CANNOT_STAND, "((((((^leas[1,2]");
        lawFault(CANNOT_STAND, "((((((^)");
        lawFault(NONE_SUCH, "((((((^1000");
    }

    private void wrapping() {
        against(4, "Values are whole numbers of 32 bits that wrap;");
        lawful();
        scores(Integer.MIN_VALUE, LEAST);
        scores(Integer.MAX_VALUE, GREATEST);
        scores(Integer.MIN_VALUE, GREATEST + "+1");
        scores(Integer.MAX_VALUE, "0-512*512*512*16-1");
        scores(Integer.MIN_VALUE, "0-512*512*512*16");
        scores(0, "256*256*256*256");
        scores(0, LEAST + "*2");
        scores(-2, "(" + GREATEST + ")*2");
        // 996005996001 less 232 times 2 to the power of 32
        scores(-426416671, "999*999*999*999");
        scores(Integer.MIN_VALUE, LEAST + "*999");
    }

    private void dividing() {
        against(4, "/ cuts, % leaves (with the sign of what is divided), by 0 both are 0.");
        lawful();
        scores(0, "0/7");
        scores(0, "6/7");
        scores(1, "7/7");
        scores(1, "13/7");
        scores(0, "(0-6)/7");
        scores(-1, "(0-13)/7");
        scores(-1, "13/(0-7)");
        scores(1, "(0-13)/(0-7)");
        scores(6, "13%7");
        scores(0, "14%7");
        scores(-6, "(0-13)%7");
        scores(6, "13%(0-7)");
        scores(-6, "(0-13)%(0-7)");
        scores(0, "(0-14)%7");
        scores(0, "7/0");
        scores(0, "7%0");
        scores(0, "0/0");
        scores(0, "0%0");
        scores(0, "(0-7)/(2-2)");
        scores(0, "(0-7)%(2-2)");
        scores(5, "7/0*3+5");
        scores(Integer.MIN_VALUE, LEAST + "/(0-1)");
        scores(0, LEAST + "%(0-1)");
        scores(Integer.MIN_VALUE, LEAST + "/1");
        scores(-1073741824, LEAST + "/2");
        scores(-2, LEAST + "%3");
    }

    private void scoresNow() {
        against(11, "SCORE of a HAND for a PUPPET now (whoever he is).");
        told("hand 5 0 1;hand 3 0 0;hand 8 2 0;puppet 4 1 10;puppet 9 2 6;works 0 0;works 1 1;quarrel 1 0;");
        is(10 - 3, "score", 0, 0);
        is(6 - 3, "score", 0, 1);
        is(16, "score", 0, 2);
        law("year*100+works*10+number");
        is(10, "score", 0, 0);
        is(2, "score", 0, 2);
        answer("years", 1);
        is(100, "score", 0, 0);
        is(111, "score", 0, 1);
        is(102, "score", 0, 2);
        for (int n : new int[] {-1, 2, Integer.MIN_VALUE, Integer.MAX_VALUE}) noElement("score", n, 0);
        for (int n : new int[] {-1, 3, Integer.MIN_VALUE, Integer.MAX_VALUE}) noElement("score", 0, n);
    }

    private void choices() {
        against(12, "Whom a PUPPET would choose now, were it to choose one more (however many it has);");
        told("hand 2 0 0;hand 5 0 0;hand 9 1 0;hand 5 0 0;puppet 1 1 9;puppet 1 2 9;works 0 0;works 1 1;works 3 1;");
        // 4 - 3, 10 - 3 and 10 - 3 of those alive; puppet 1 has all its hands
        is(1, "chooses", 0);
        is(0, "chooses", 1);
        is(1, "chooses", 0);
        is(1, "puppet", 0, 3);
        noElement("chooses", 2);
        noElement("chooses", -1);

        against(12, "NONE: nobody.");
        // each alone: works it, has quarrelled with it, works 3, not born, dead
        told("hand 1 0 0;puppet 1 2 9;works 0 0;");
        is(NONE, "chooses", 0);
        told("hand 1 0 0;puppet 1 2 9;quarrel 0 0;");
        is(NONE, "chooses", 0);
        told("hand 1 0 0;puppet 1 2 9;puppet 1 1 9;puppet 1 1 9;puppet 1 1 9;works 0 1;works 0 2;");
        is(0, "chooses", 0);
        is(1, "years", 1);
        is(NONE, "chooses", 3);
        told("hand 1 0 0;puppet 1 2 9;puppet 1 1 9;puppet 1 1 9;puppet 1 1 9;works 0 1;works 0 2;works 0 3;");
        is(NONE, "chooses", 0);
        told("hand 1 1 0;puppet 1 2 9;");
        is(NONE, "chooses", 0);
        told("hand 1 0 0;puppet 1 2 9;");
        is(0, "chooses", 0);
        answer("dies", 0);
        is(NONE, "chooses", 0);
        told("puppet 1 2 9;");
        is(NONE, "chooses", 0);
        // the least score of all is still a score
        told("hand 1 0 0;hand 1 0 0;puppet 1 1 9;");
        law(LEAST);
        is(0, "chooses", 0);
        law(LEAST + "-number");
        is(1, "chooses", 0);
        law(LEAST + "+1-number");
        is(0, "chooses", 0);
        law("0-number-1");
        is(0, "chooses", 0);
        law("number-2");
        is(1, "chooses", 0);
    }
}
