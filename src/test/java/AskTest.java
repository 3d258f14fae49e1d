/** Promises 29 to 45, 48 and 50: what is asked of puppets, books, nights, strings, debts and heirs. */
public final class AskTest {
    private static final Check check = new Check();

    public static void main(String[] args) {
        dropping();
        books();
        nights();
        fairs();
        claims();
        debts();
        heirs();
        orphansAndIdle();
        practising();
        silence();
        strings();
        firsts();
        check.end();
    }

    private static void dropping() {
        PuppetHeirs x = Check.told("hand 5 0 0;hand 3 0 2;hand 5 1 0;puppet 4 1 10;puppet 15 1 30;works 1 0;");
        check.due(29, "4 + 15 + 10", 13, () -> x.lies(0, 0));
        check.due(29, "4 + 9 + 10", 7, () -> x.lies(0, 1));
        check.due(29, "15 + 15 + 30, not born", 12, () -> x.lies(1, 2));
        check.due(29, "lies(2, 0)", Check.NO_ELEMENT, () -> x.lies(2, 0));
        check.due(29, "lies(0, 3)", Check.NO_ELEMENT, () -> x.lies(0, 3));
        check.due(29, "lies(-1, 0)", Check.NO_ELEMENT, () -> x.lies(-1, 0));
        check.due(30, "dropped(0, 13)", 1, () -> x.dropped(0, 13));
        check.due(30, "dropped(0, 7)", 2, () -> x.dropped(0, 7));
        check.due(30, "dropped(0, 0)", 0, () -> x.dropped(0, 0));
        check.due(30, "dropped(0, 16)", Check.NO_ARGUMENT, () -> x.dropped(0, 16));
        check.due(30, "dropped(0, -1)", Check.NO_ARGUMENT, () -> x.dropped(0, -1));
        check.due(30, "dropped(2, 16)", Check.NO_ELEMENT, () -> x.dropped(2, 16));
        x.years(2);
        check.due(29, "two strings less", 11, () -> x.lies(0, 0));
        check.due(30, "two of them", 5, () -> x.dropped(0, 11));
        check.due(30, "the dead drop nothing", 0, () -> x.dropped(0, 5));
        check.due(29, "the dead", 5, () -> x.lies(0, 1));
    }

    private static void books() {
        // puppet 1 chooses 0 in year 1, hand 1 dies in year 2: puppet 0 chooses 2
        PuppetHeirs x = Check.told("hand 5 0 0;hand 3 0 2;hand 6 2 0;puppet 1 1 9;puppet 1 1 9;works 1 0;");
        check.due(31, "no book", 0, x::right);
        check.due(32, "no book", 1023, () -> x.limps(0));
        Check.book(x, "2 0 2;1 1 0;1 0 1;");
        check.due(31, "all right, in any order", 3, x::right);
        Check.book(x, "1 1 0;1 0 2;2 0 2;");
        check.due(31, "from the first on", 1, x::right);
        Check.book(x, "1 0 2;1 1 0;2 0 2;");
        check.due(31, "the first is wrong", 0, x::right);
        Check.book(x, "60 0 2;");
        check.due(31, "year 60", 1, x::right);
        x.dies(0);
        x.years(5);
        check.due(31, "as told, not as it went", 1, x::right);
        check.due(31, "nothing stays changed", 5, () -> x.told(3));
        // behind year 2 hand 2 has puppet 0: 2 L beats 5 * 2 - 3 = 7 of hand 0
        Check.book(x, "2 0 2;");
        check.due(32, "limps(2)", 0x3f0, () -> x.limps(2));
        // hand 0: 2 L - 3 is less than 12 up to LIMP 7, and puppet 1 takes whom it takes: 1 by 2 * 3 - 3
        check.due(32, "limps(0)", 0xff, () -> x.limps(0));
        check.due(32, "limps(1)", 1023, () -> x.limps(1));
        check.due(32, "limps(3)", Check.NO_ELEMENT, () -> x.limps(3));
        check.due(32, "limps(-1)", Check.NO_ELEMENT, () -> x.limps(-1));
        check.due(32, "LIMP as told stays", 6, () -> x.hand(2, 0));
        Check.book(x, "2 0 2;2 0 0;");
        check.due(32, "not all can be right", 0, () -> x.limps(2));
        Check.law(x, "0-limp");
        Check.book(x, "2 0 0;");
        check.due(31, "by the law that holds", 1, x::right);
    }

    private static void nights() {
        PuppetHeirs x = Check.told("hand 1 0 0;hand 1 0 0;hand 1 0 0;hand 1 1 0;silent 0 2;silent 1 3;silent 2 3;");
        check.due(33, "nights()", 2, x::nights);
        nightsDue(x, 0, 0, 1, -1);
        x.years(1);
        check.due(33, "nights()", 2, x::nights);
        nightsDue(x, 0, 1, 1, 0);
        x.dies(1);
        nightsDue(x, 0, -1, 1, 0);
        x.dies(2);
        check.due(33, "nights()", 1, x::nights);
        x.dies(0);
        x.dies(3);
        check.due(33, "nobody is alive", 0, x::nights);
        check.due(34, "night(4)", Check.NO_ELEMENT, () -> x.night(4));
        check.due(34, "night(-1)", Check.NO_ELEMENT, () -> x.night(-1));
        StringBuilder all = new StringBuilder("hand 1 0 0;".repeat(9));
        for (int h = 0; h < 9; h++) for (int g = 0; g < h; g++) all.append("silent").append(h).append(' ').append(g).append(';');
        PuppetHeirs y = Check.told(all.toString());
        check.due(33, "nobody speaks", 9, y::nights);
        check.due(34, "the last night", 8, () -> y.night(8));
        check.due(50, "no pair speaks", 0, y::speaks);
        // the first free night each would need a third one: 3 may not be with 0
        PuppetHeirs z = Check.told("hand 1 0 0;".repeat(4) + "silent 0 1;silent 1 2;silent 2 3;");
        nightsDue(z, 0, 1, 0, 1);
        PuppetHeirs w = Check.told("hand 1 0 0;".repeat(4) + "silent 0 2;silent 2 3;silent 3 1;");
        nightsDue(w, 0, 1, 1, 0);
    }

    private static void nightsDue(PuppetHeirs x, int... want) {
        for (int h = 0; h < want.length; h++) {
            int hand = h;
            check.due(34, "night(" + h + ")", want[h], () -> x.night(hand));
        }
    }

    private static void fairs() {
        PuppetHeirs x = Check.told("puppet 1 1 10;puppet 1 1 6;puppet 1 1 3;act 9 0 1 end;act 5 2 end;act 4 0 2 end;");
        int[] want = {0, 3, 2, 5, 1, 3 + 3 + 1, 6, 3 + 3 + 6};
        for (int acts = 0; acts < 8; acts++) {
            int bits = acts;
            check.due(35, "fair(" + acts + ")", want[acts], () -> x.fair(bits));
        }
        x.string(1, 2);
        check.due(35, "strings now", 1, () -> x.fair(1));
        check.due(35, "nothing is added", 8, () -> x.puppet(1, 2));
        check.due(35, "fair(8)", Check.NO_ARGUMENT, () -> x.fair(8));
        check.due(35, "fair(-1)", Check.NO_ARGUMENT, () -> x.fair(-1));
        check.due(35, "fair(MIN)", Check.NO_ARGUMENT, () -> x.fair(Integer.MIN_VALUE));
    }

    private static void claims() {
        // claims 10, 9 and 6: 25 in all
        PuppetHeirs x = Check.told("hand 1 0 0;hand 1 0 0;hand 1 0 0;hand 1 1 0;puppet 4 1 10;puppet 9 2 6;puppet 0 1 3;"
            + "works 0 0;works 1 1;works 2 1;works 1 2;");
        int[][] want = {{0, 0, 0, 0, 0}, {10, 4, 3, 2, 0}, {24, 9, 8, 5, 0}, {25, 10, 9, 6, 0}, {999, 10, 9, 6, 0}};
        for (int[] w : want) for (int h = 0; h < 4; h++) gets(x, h, w[0], 0, w[h + 1]);
        int[][] level = {{0, 0, 0, 0, 0}, {2, 0, 0, 0, 0}, {10, 3, 3, 3, 0}, {18, 6, 6, 6, 0}, {19, 6, 6, 6, 0},
            {20, 7, 7, 6, 0}, {24, 9, 9, 6, 0}, {25, 10, 9, 6, 0}, {999, 10, 9, 6, 0}};
        for (int[] w : level) for (int h = 0; h < 4; h++) gets(x, h, w[0], 1, w[h + 1]);
        gets(x, 0, 1000, 0, Check.NO_ARGUMENT);
        gets(x, 0, -1, 0, Check.NO_ARGUMENT);
        gets(x, 0, 1, 2, Check.NO_ARGUMENT);
        gets(x, 0, 1, -1, Check.NO_ARGUMENT);
        gets(x, 4, 1000, 2, Check.NO_ELEMENT);
        gets(x, -1, 1, 1, Check.NO_ELEMENT);
        x.dies(0);
        gets(x, 0, 100, 0, 0);
        gets(x, 1, 10, 0, 6);
        gets(x, 2, 10, 1, 5);
        PuppetHeirs y = Check.told("hand 1 0 0;");
        gets(y, 0, 0, 0, 0);
        gets(y, 0, 9, 1, 0);
    }

    private static void gets(PuppetHeirs x, int hand, int e, int how, int want) {
        check.due(36, "gets(" + hand + ", " + e + ", " + how + ")", want, () -> x.gets(hand, e, how));
    }

    private static void debts() {
        PuppetHeirs x = Check.told("hand 1 0 1;hand 1 0 0;hand 1 3 0;owes 0 1 9;owes 1 0 4;owes 0 1 99;owes 2 1 1;");
        check.due(37, "they add up", 108, () -> x.owes(0, 1));
        check.due(37, "the other way", 4, () -> x.owes(1, 0));
        check.due(37, "nothing", 0, () -> x.owes(1, 2));
        check.due(37, "himself", 0, () -> x.owes(1, 1));
        check.due(37, "owes(3, 0)", Check.NO_ELEMENT, () -> x.owes(3, 0));
        check.due(37, "owes(0, 3)", Check.NO_ELEMENT, () -> x.owes(0, 3));
        check.due(37, "owes(-1, 0)", Check.NO_ELEMENT, () -> x.owes(-1, 0));
        check.due(38, "net(0)", -104, () -> x.net(0));
        check.due(38, "net(1)", 105, () -> x.net(1));
        check.due(38, "net(2)", -1, () -> x.net(2));
        check.due(38, "net(3)", Check.NO_ELEMENT, () -> x.net(3));
        check.due(38, "net(-1)", Check.NO_ELEMENT, () -> x.net(-1));
        x.years(1);
        check.due(38, "the dead owe on", 105, () -> x.net(1));
        PuppetHeirs y = Check.told("hand 1 0 0;hand 1 0 0;" + "owes 0 1 99;".repeat(11));
        check.due(37, "999 at most", 999, () -> y.owes(0, 1));
        check.due(38, "999 at most", -999, () -> y.net(0));
        PuppetHeirs z = Check.told("hand 1 0 0;hand 1 0 0;" + "owes 0 1 99;".repeat(10) + "owes 0 1 9;");
        check.due(37, "999", 999, () -> z.owes(0, 1));
    }

    private static void heirs() {
        PuppetHeirs x = Check.told("hand 5 0 0;hand 3 0 2;hand 8 0 0;hand 2 1 0;puppet 4 1 10;puppet 9 2 6;puppet 0 1 3;"
            + "works 0 0;works 1 1;works 2 1;works 1 2;quarrel 0 1;");
        check.due(39, "3 is not born", -1, () -> x.heir(1, 1));
        check.due(39, "heir(2, 1)", 2, () -> x.heir(2, 1));
        check.due(39, "heir(0, 0)", 2, () -> x.heir(0, 0));
        check.due(39, "he does not work it", -1, () -> x.heir(0, 1));
        check.due(39, "nobody dies", 3, () -> x.told(4));
        check.due(39, "heir(3, 0)", Check.NO_ELEMENT, () -> x.heir(3, 0));
        check.due(39, "heir(0, 4)", Check.NO_ELEMENT, () -> x.heir(0, 4));
        check.due(39, "heir(-1, 0)", Check.NO_ELEMENT, () -> x.heir(-1, 0));
        x.years(1);
        check.due(39, "3 is born", 3, () -> x.heir(1, 1));
        // were he dead he would be no kin's hand, and last
        PuppetHeirs y = Check.told("hand 1 0 0;hand 1 0 0;hand 2 0 0;puppet 1 1 9;puppet 1 2 9;works 0 0;works 0 1;works 1 1;");
        Check.law(y, "kin*9+limp");
        check.due(39, "kin as all is now", 1, () -> y.chooses(0));
        check.due(39, "no kin when he is dead", 2, () -> y.heir(0, 0));
    }

    private static void orphansAndIdle() {
        PuppetHeirs x = Check.told("hand 1 0 0;hand 1 0 0;hand 1 2 0;puppet 1 1 9;puppet 1 2 9;puppet 1 1 9;"
            + "works 0 0;works 0 1;quarrel 0 2;quarrel 1 2;quarrel 2 1;");
        check.due(40, "orphans()", 6, x::orphans);
        check.due(41, "idle()", 2, x::idle);
        x.years(1);
        check.due(40, "orphans()", 4, x::orphans);
        check.due(41, "idle()", 0, x::idle);
        x.years(1);
        check.due(40, "orphans()", 0, x::orphans);
        x.undo(2);
        x.dies(1);
        check.due(41, "the dead are not idle", 0, x::idle);
    }

    private static void practising() {
        PuppetHeirs x = Check.told("hand 5 0 0;hand 3 0 2;hand 8 0 0;hand 2 1 0;puppet 4 1 10;puppet 9 2 6;puppet 0 1 3;"
            + "works 0 0;works 1 1;works 2 1;works 1 2;quarrel 0 1;silent 0 2;");
        check.due(42, "against 16 - 3 + kin", 9, () -> x.practise(0, 2));
        check.due(42, "not born", -1, () -> x.practise(3, 2));
        check.due(42, "quarrelled", -1, () -> x.practise(0, 1));
        check.due(42, "works it", -1, () -> x.practise(2, 1));
        check.due(42, "whom it chooses, with less: 2 L - 3 + 1 against 7 of hand 0", 5, () -> x.practise(2, 2));
        check.due(42, "LIMP stays", 5, () -> x.hand(0, 0));
        check.due(42, "practise(4, 0)", Check.NO_ELEMENT, () -> x.practise(4, 0));
        check.due(42, "practise(0, 3)", Check.NO_ELEMENT, () -> x.practise(0, 3));
        check.due(42, "practise(-1, 0)", Check.NO_ELEMENT, () -> x.practise(-1, 0));
        Check.law(x, "0-limp");
        check.due(42, "by a law of its own", 0, () -> x.practise(0, 2));
        Check.law(x, "1");
        check.due(42, "by none", -1, () -> x.practise(2, 2));
    }

    private static void silence() {
        PuppetHeirs x = Check.told("hand 1 0 0;hand 1 0 0;hand 1 0 0;hand 1 2 0;puppet 1 2 9;puppet 1 2 9;puppet 1 1 9;"
            + "works 0 0;works 2 0;works 0 1;works 1 1;works 2 2;silent 2 0;silent 1 3;");
        check.due(43, "mute()", 1, x::mute);
        x.give(1, 0, 2);
        check.due(43, "mute()", 1, x::mute);
        x.dies(0);
        check.due(43, "mute()", 0, x::mute);
        PuppetHeirs y = Check.told("hand 1 0 0;hand 1 0 0;hand 1 0 3;hand 1 2 0;silent 2 0;silent 1 3;silent 0 2;");
        check.due(50, "three of three less one", 2, y::speaks);
        y.years(2);
        check.due(50, "six less two", 4, y::speaks);
        y.years(1);
        check.due(50, "three less one", 2, y::speaks);
    }

    private static void strings() {
        PuppetHeirs x = Check.told("hand 1 0 0;puppet 1 1 10;puppet 1 1 6;puppet 1 2 3;puppet 1 1 0;works 0 0;works 0 1;wear 3;");
        int[] slack = {0, 8, 8, 8, 12, 12, 12, 14, 14, 14, 14, 15};
        for (int i = 0; i < slack.length; i++) {
            int n = i;
            check.due(44, "slack(" + n + ")", slack[n], () -> x.slack(n));
        }
        check.due(44, "slack(31)", 15, () -> x.slack(31));
        check.due(44, "slack(32)", Check.NO_ARGUMENT, () -> x.slack(32));
        check.due(44, "slack(-1)", Check.NO_ARGUMENT, () -> x.slack(-1));
        check.due(45, "10 by 3", 4, () -> x.fades(0));
        check.due(45, "6 by 3", 2, () -> x.fades(1));
        check.due(45, "lacks hands, does not wear", -1, () -> x.fades(2));
        check.due(45, "it has none now", 0, () -> x.fades(3));
        check.due(45, "fades(4)", Check.NO_ELEMENT, () -> x.fades(4));
        check.due(45, "fades(-1)", Check.NO_ELEMENT, () -> x.fades(-1));
        x.years(1);
        check.due(44, "strings now", 14, () -> x.slack(7));
        check.due(45, "the year itself", 4, () -> x.fades(0));
        check.due(45, "nothing stays changed", 7, () -> x.puppet(0, 2));
        PuppetHeirs y = Check.told("hand 1 30 0;puppet 1 1 30;");
        check.due(45, "30 years from 30 on", 59, () -> y.fades(0));
        PuppetHeirs z = Check.told("hand 1 0 0;puppet 1 1 30;works 0 0;wear 0;");
        check.due(45, "wear 0", -1, () -> z.fades(0));
        PuppetHeirs w = Check.told("hand 1 0 0;puppet 1 1 30;works 0 0;wear 3;wear 9;");
        check.due(45, "the last wear counts", 4, () -> w.fades(0));
    }

    private static void firsts() {
        PuppetHeirs x = Check.told("hand 1 3 0;hand 1 1 9;hand 1 1 0;hand 1 0 2;owes 0 1 5;owes 3 2 5;");
        check.due(48, "eldest", 3, () -> x.first(0));
        check.due(48, "richest: the first", 1, () -> x.first(1));
        x.years(2);
        check.due(48, "eldest alive: the first", 1, () -> x.first(0));
        x.dies(1);
        check.due(48, "eldest alive", 2, () -> x.first(0));
        check.due(48, "the richest may be dead", 1, () -> x.first(1));
        x.dies(2);
        check.due(48, "nobody", -1, () -> x.first(0));
        check.due(48, "first(2)", Check.NO_ARGUMENT, () -> x.first(2));
        check.due(48, "first(-1)", Check.NO_ARGUMENT, () -> x.first(-1));
        check.due(48, "no hands", -1, () -> new PuppetHeirs().first(1));
        PuppetHeirs y = Check.told("hand 1 0 0;hand 1 0 0;hand 1 0 0;owes 0 1 5;owes 1 0 5;");
        check.due(48, "all alike", 0, () -> y.first(1));
    }
}
