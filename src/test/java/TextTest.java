/** Promises 1 to 6: a new object, the tape, the three kinds of texts and their faults. */
public final class TextTest {
    private static final Check check = new Check();

    public static void main(String[] args) {
        newObject();
        tape();
        families();
        familyFaults();
        limitsOfFamilies();
        familyKeepsOrClears();
        laws();
        lawFaults();
        books();
        check.end();
    }

    private static void newObject() {
        PuppetHeirs x = new PuppetHeirs();
        for (int what = 0; what < 7; what++) {
            int w = what;
            check.due(1, "told(" + w + ")", 0, () -> x.told(w));
        }
        for (int what = 0; what < 3; what++) {
            int w = what;
            check.due(1, "count(" + w + ")", 0, () -> x.count(w));
        }
        check.due(1, "fault()", -1, x::fault);
        check.due(1, "hand(0, 0)", Check.NO_ELEMENT, () -> x.hand(0, 0));
        check.due(1, "played()", 0, x::played);
        check.due(1, "fair(0)", 0, () -> x.fair(0));
    }

    private static void tape() {
        PuppetHeirs x = new PuppetHeirs();
        check.due(2, "the first feed", 20, () -> x.feed('h' << 24 | 'a' << 16 | 'n' << 8 | 'd', ' ' << 24 | '7' << 16 | ' ' << 8 | '0',
            ' ' << 24 | '0' << 16 | ';' << 8 | 0x81, 0x80000000, -1));
        check.due(2, "the text that was fed", 0, () -> x.family(11));
        check.due(2, "its limp", 7, () -> x.hand(0, 0));
        for (int i = 1; i <= 30; i++) {
            int n = i;
            check.due(2, "feed " + n, 20 * n, () -> x.feed(0x20202020, 0x20202020, 0x20202020, 0x20202020, 0x20202020));
        }
        check.due(2, "feed 31", PuppetHeirs.NONE, () -> x.feed(1, 2, 3, 4, 5));
        check.due(2, "bytes", 600, () -> x.count(1));
        check.due(2, "blanks alone are a family", 0, () -> x.family(600));
        // a byte above 127 can't stand anywhere
        check.due(2, "feed", 20, () -> x.feed(0x20e97761, 0, 0, 0, 0));
        check.due(2, "a byte of 233", -9, () -> x.family(4));
        check.due(2, "its place", 1, x::fault);
    }

    private static void family(String text, int want, int place) {
        PuppetHeirs x = new PuppetHeirs();
        check.due(3, "family '" + text + "'", want, () -> Check.family(x, text));
        check.due(6, "fault of '" + text + "'", place, x::fault);
        check.due(3, "the tape behind it", 0, () -> x.count(1));
    }

    private static void families() {
        family("", 0, -1);
        family("    ", 0, -1);
        family(" hand 1 0 0 ; ", 0, -1);
        family("hand5 0 0;puppet15 2 30;", 1, -1);
        family("hand 9 40 60;hand 0 0 1;puppet 0 1 0;", 1, -1);
        family("hand 000000000000000000009 0 0;", 0, -1);
        family("puppet 1 1 1;act 1 0end;act 9 0 end;", 1, -1);
        family("hand 1 0 0;puppet 1 1 1;puppet 1 1 1;puppet 1 1 1;puppet 1 1 1;works 0 0;works 0 1;works 0 2;works 0 3;", 4, -1);
        family("hand 1 0 0;puppet 1 1 1;quarrel 0 0;quarrel 0 0;", 1, -1);
        family("hand 1 0 0;hand 1 0 0;silent 0 1;silent 1 0;silent 0 1;", 0, -1);
        family("wear 0;wear 9;", 0, -1);
    }

    private static void familyFaults() {
        family(";", -9, 0);
        family("  Hand 1 0 0;", -9, 2);
        family("\thand 1 0 0;", -9, 0);
        family("5 hand;", -9, 0);
        family("hands 1 0 0;", -9, 0);
        family("han 1 0 0;", -9, 0);
        family("hand 1 0 0", -9, 10);
        family("hand 1 0 0   ", -9, 13);
        family("hand 1 0;", -9, 8);
        family("hand 1 0 x;", -9, 9);
        family("hand 1 0 -1;", -9, 9);
        family("hand 1 0 0 0;", -9, 11);
        family("hand 10 0 0;", -8, 5);
        family("hand 4294967296 0 0;", -8, 5);
        family("hand 99999999999999999999999999 0 0;", -8, 5);
        family("hand 1 41 0;", -8, 7);
        family("hand 1 0 61;", -8, 9);
        family("hand 1 0 0;hand 1 7 7;", -8, 20);
        family("hand 1 40 39;", -8, 10);
        family("puppet 16 1 1;", -8, 7);
        family("puppet 0 0 0;", -8, 9);
        family("puppet 0 3 0;", -8, 9);
        family("puppet 0 1 31;", -8, 11);
        String two = "hand 1 0 0;puppet 1 1 1;";
        family(two + "works 1 0;", -8, 30);
        family(two + "works 0 1;", -8, 32);
        family(two + "works 0;", -9, 31);
        family(two + "quarrel 0 0;works 0 0;", -8, 44);
        family(two + "works 0 0;quarrel 0 0;", -8, 44);
        family("hand 1 0 0;puppet 1 2 1;works 0 0;works 0 0;", -8, 42);
        family("hand 1 0 0;hand 1 0 0;puppet 1 1 1;works 0 0;works 1 0;", -8, 53);
        family("hand 1 1 0;puppet 1 1 1;works 0 0;", -8, 32);
        family("hand 1 1 0;puppet 1 1 1;works 0 ;", -9, 32);
        family("puppet 1 1 1;quarrel 0 0;hand 1 0 0;", -8, 21);
        family("hand 1 0 0;silent 0 0;", -8, 20);
        family("hand 1 0 0;silent 0 1;", -8, 20);
        family("hand 1 0 0;owes 0 0 1;", -8, 18);
        String pair = "hand 1 0 0;hand 1 0 0;";
        family(pair + "owes 0 1 0;", -8, 31);
        family(pair + "owes 0 2;", -8, 29);
        family(pair + "owes 2 0 1;", -8, 27);
        family(pair + "owes 0 1;", -9, 30);
        family(pair + "silent 2 0;", -8, 29);
        family(pair + "silent 0;", -9, 30);
        family(pair + "owes 0 1 100;", -8, 31);
        family("puppet 1 1 1;act 10 0 end;", -8, 17);
        family("puppet 1 1 1;act 1 1 end;", -8, 19);
        family("puppet 1 1 1;act 1 0 0 end;", -8, 21);
        family("puppet 1 1 1;act 1 end;", -9, 19);
        family("puppet 1 1 1;act 1", -9, 18);
        family("puppet 1 1 1;act 1 0;", -9, 20);
        family("puppet 1 1 1;act 1 0 ends;", -9, 21);
        family("puppet 1 1 1;act 1 0 end", -9, 24);
        family("wear 10;", -8, 5);
        family("wear;", -9, 4);
    }

    private static void limitsOfFamilies() {
        String nine = "hand 1 0 0;".repeat(9);
        family(nine, 0, -1);
        family(nine + "hand 1 0 0;", -7, 99);
        family(nine + "hand 99 0 0;", -7, 99);
        family(nine + " hands", -9, 100);
        String eight = "puppet 1 1 1;".repeat(8);
        family(eight, 8, -1);
        family(eight + "puppet 1 1 1;", -7, 104);
        family(eight + "act 1 0 1 2 3 4 5 end;", 8, -1);
        family(eight + "act 1 0 1 2 3 4 5 6 end;", -7, 104 + 18);
        family(eight + "act 1 0 1 2 3 4 5 5 end;", -8, 104 + 18);
        family(eight + "act 1 0 1 2 3 4 5 8 end;", -8, 104 + 18);
        family("puppet 1 1 1;" + "act 1 0 end;".repeat(6), 1, -1);
        family("puppet 1 1 1;" + "act 1 0 end;".repeat(7), -7, 85);
        family("wear1;".repeat(60), 0, -1);
        family("wear1;".repeat(60) + "  ", 0, -1);
        family("wear1;".repeat(61), -7, 360);
        family("wear1;".repeat(60) + "weak1;", -9, 360);
        family("wear1;".repeat(60) + "7", -9, 360);
    }

    private static void familyKeepsOrClears() {
        PuppetHeirs x = Check.told("hand 4 0 0;puppet 1 1 9;");
        Check.law(x, "7");
        Check.book(x, "1 0 0;");
        x.years(2);
        x.image();
        check.due(3, "a faulty family", -9, () -> Check.family(x, "hand"));
        check.due(3, "hands kept", 1, () -> x.told(0));
        check.due(3, "year kept", 2, () -> x.told(3));
        check.due(3, "law kept", 7, () -> x.score(0, 0));
        check.due(3, "book kept", 1, () -> x.told(6));
        check.due(3, "image kept", 1, () -> x.count(0));
        check.due(3, "years kept", 2, () -> x.count(2));
        check.due(6, "the fault", 4, x::fault);
        x.feed(0, 0, 0, 0, 0);
        check.due(3, "family(-1)", Check.NO_ARGUMENT, () -> x.family(-1));
        check.due(3, "family(21)", Check.NO_ARGUMENT, () -> x.family(21));
        check.due(3, "the tape stays", 20, () -> x.count(1));
        check.due(6, "the fault stays", 4, x::fault);
        check.due(3, "family(0)", 0, () -> x.family(0));
        check.due(3, "the tape is empty", 0, () -> x.count(1));
        check.due(6, "no fault", -1, x::fault);
        check.due(3, "no image", 0, () -> x.count(0));
        check.due(3, "nothing to undo", 0, () -> x.count(2));
        check.due(3, "no book", 0, () -> x.told(6));
        check.due(3, "year 0", 0, () -> x.told(3));
        Check.family(x, "hand 4 0 0;puppet 1 1 9;");
        check.due(3, "no law: limp * 2", 8, () -> x.score(0, 0));
    }

    /** Three hands, three puppets; in year 2 hand 1 is 2 years old, hand 2 comes in year 5. */
    private static PuppetHeirs lawful() {
        PuppetHeirs x = Check.told("hand 4 0 0;hand 7 0 9;hand 1 5 0;puppet 6 2 11;puppet 3 1 5;puppet 2 2 9;"
            + "works 0 0;works 1 0;works 0 1;quarrel 0 2;quarrel 1 2;wear 3;");
        x.years(2);
        return x;
    }

    private static void law(String text, int want) {
        PuppetHeirs x = lawful();
        check.due(4, "law '" + text + "'", 1, () -> Check.law(x, text));
        check.due(4, "score by '" + text + "'", want, () -> x.score(0, 1));
        check.due(4, "years gone by stay", 2, () -> x.told(3));
        check.due(4, "no fault", -1, x::fault);
    }

    private static void laws() {
        law("7", 7);
        law("000000000000000000000000999", 999);
        law(" 7 - 2 - 1 ", 4);
        law("2 + 3 * 4", 14);
        law("(2 + 3)*4", 20);
        law("100 / 7 / 2", 7);
        law("100 % 7 * 3", 6);
        law("20 / 3", 6);
        law("(0 - 20) / 3", -6);
        law("(0-20)%3", -2);
        law("20%(0-3)", 2);
        law("5/0", 0);
        law("5%0", 0);
        law("999*999*999*999", (int) (999L * 999 * 999 * 999));
        law("512*512*512*16", Integer.MIN_VALUE);
        law("512*512*512*16-1", Integer.MAX_VALUE);
        law("512*512*512*16/(0-1)", Integer.MIN_VALUE);
        law("512*512*512*16%(0-1)", 0);
        law("least[3,2]", 2);
        law("least[2,3]", 2);
        law("most [ 3 , 2 ]", 3);
        law("most[0-3,0-2]", -2);
        law("limp", 7);
        law("fall", 6);
        law("age", 2);
        law("works", 1);
        law("strings", 5);
        law("year", 2);
        law("number", 1);
        law("puppet", 0);
        law("kin", 0);
        law("limp*fall+age", 44);
        law("((((((1))))))", 1);
        law("((((((1))))))+((((((2))))))", 3);
        law("least[least[least[least[least[most[1,2],9],9],9],9],9]", 2);
        PuppetHeirs x = lawful();
        check.due(4, "without: 7 * 2 - 3", 11, () -> x.score(0, 1));
        check.due(4, "without: kin of puppet 1 by puppet 0", 12, () -> x.score(1, 1));
        check.due(4, "149 blanks", 1, () -> Check.law(x, " ".repeat(149) + "8"));
        check.due(4, "its score", 8, () -> x.score(0, 0));
        Check.feed(x, " ".repeat(150) + "8");
        check.due(4, "law(151)", Check.NO_ARGUMENT, () -> x.law(151));
        check.due(4, "law(-1)", Check.NO_ARGUMENT, () -> x.law(-1));
        check.due(4, "the tape stays", 160, () -> x.count(1));
        check.due(4, "law(150) of blanks", -9, () -> x.law(150));
        check.due(6, "its fault", 150, x::fault);
        check.due(4, "the law stays", 8, () -> x.score(0, 0));
        check.due(4, "law(1) of no tape", Check.NO_ARGUMENT, () -> x.law(1));
    }

    private static void lawFault(String text, int want, int place) {
        PuppetHeirs x = lawful();
        check.due(4, "law '" + text + "'", want, () -> Check.law(x, text));
        check.due(6, "fault of '" + text + "'", place, x::fault);
        check.due(4, "the law behind '" + text + "'", 11, () -> x.score(0, 1));
        check.due(4, "the years behind '" + text + "'", 2, () -> x.count(2));
        check.due(4, "the tape behind '" + text + "'", 0, () -> x.count(1));
    }

    private static void lawFaults() {
        lawFault("", -9, 0);
        lawFault("limps", -9, 0);
        lawFault("limp limp", -9, 5);
        lawFault("limp *", -9, 6);
        lawFault("limp + + 1", -9, 7);
        lawFault("-1", -9, 0);
        lawFault("1000", -8, 0);
        lawFault("limp+ 4294967297", -8, 6);
        lawFault("least(1,2)", -9, 5);
        lawFault("least[1]", -9, 7);
        lawFault("least[1 2]", -9, 8);
        lawFault("most[1,2", -9, 8);
        lawFault("(1", -9, 2);
        lawFault("(1]", -9, 2);
        lawFault("1)", -9, 1);
        lawFault("1;", -9, 1);
        lawFault("(((((((1)))))))", -7, 6);
        lawFault("((((((least[1,2]))))))", -7, 6);
        lawFault("((((((most", -7, 6);
        lawFault("least[((((((1))))))", -7, 11);
        lawFault("((((((leas", -9, 6);
        lawFault("((((((1000", -8, 6);
    }

    private static void bookOf(String text, int want, int place) {
        PuppetHeirs x = lawful();
        Check.book(x, "1 0 0;2 0 0;");
        check.due(5, "book '" + text + "'", want, () -> Check.book(x, text));
        check.due(6, "fault of '" + text + "'", place, x::fault);
        check.due(5, "lines behind '" + text + "'", want < 0 ? 2 : want, () -> x.told(6));
        check.due(5, "years behind '" + text + "'", 2, () -> x.count(2));
    }

    private static void books() {
        bookOf("", 0, -1);
        bookOf("  ", 0, -1);
        bookOf("1 0 0;", 1, -1);
        bookOf(" 60 2 2 ; 1 0 0 ; ", 2, -1);
        bookOf("1 0 0;".repeat(12), 12, -1);
        bookOf("1 0 0;".repeat(13), -7, 72);
        bookOf("1 0 0;".repeat(12) + "61 0 0;", -8, 72);
        bookOf("1 0 0;".repeat(12) + "x", -9, 72);
        bookOf("0 0 0;", -8, 0);
        bookOf("61 0 0;", -8, 0);
        bookOf("1 3 0;", -8, 2);
        bookOf("1 0 3;", -8, 4);
        bookOf("1 0 0", -9, 5);
        bookOf("1 0;", -9, 3);
        bookOf("hand 1;", -9, 0);
        PuppetHeirs x = lawful();
        Check.feed(x, " ".repeat(151));
        check.due(5, "book(151)", Check.NO_ARGUMENT, () -> x.book(151));
        check.due(5, "book(-1)", Check.NO_ARGUMENT, () -> x.book(-1));
        check.due(5, "the tape stays", 160, () -> x.count(1));
        check.due(5, "book(150)", 0, () -> x.book(150));
        check.due(5, "book(1) of no tape", Check.NO_ARGUMENT, () -> x.book(1));
        check.due(5, "a book of nobody", -8, () -> Check.book(new PuppetHeirs(), "1 0 0;"));
    }
}
