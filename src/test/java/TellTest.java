/** Promises 7 to 12: what is told, and whom a puppet prefers. */
public final class TellTest {
    private static final Check check = new Check();

    public static void main(String[] args) {
        told();
        hands();
        puppets();
        acts();
        scores();
        choices();
        check.end();
    }

    /** Hand 0 dies in year 3, hand 2 comes in year 1; puppet 1 needs two. */
    private static PuppetHeirs family() {
        return Check.told("hand 5 0 3;hand 2 0 0;hand 2 1 0;puppet 1 1 5;puppet 2 2 4;works 0 0;"
            + "act 3 1 0 end;act 0 0 end;wear 2;");
    }

    private static void told() {
        PuppetHeirs x = family();
        int[] first = {3, 2, 2, 0, 2, 9, 0};
        int[] then = {3, 2, 2, 3, 2, 0, 1};
        for (int what = 0; what < 7; what++) {
            int w = what;
            check.due(7, "told(" + w + ")", first[w], () -> x.told(w));
        }
        Check.book(x, "1 0 0;");
        x.years(3);
        for (int what = 0; what < 7; what++) {
            int w = what;
            check.due(7, "told(" + w + ") in year 3", then[w], () -> x.told(w));
        }
        check.due(7, "told(-1)", Check.NO_ARGUMENT, () -> x.told(-1));
        check.due(7, "told(7)", Check.NO_ARGUMENT, () -> x.told(7));
    }

    private static void hands() {
        PuppetHeirs x = family();
        due(8, x, true, 0, 5, 0, 3, 1, 1, 0);
        due(8, x, true, 2, 2, 1, 0, 0, 0, 0);
        x.years(2);
        due(8, x, true, 0, 5, 0, 3, 1, 3, 2);
        due(8, x, true, 1, 2, 0, 0, 1, 2, 2);
        due(8, x, true, 2, 2, 1, 0, 1, 0, 1);
        x.years(2);
        due(8, x, true, 0, 5, 0, 3, 2, 0, 4);
        due(8, x, true, 2, 2, 1, 0, 1, 3, 3);
        check.due(8, "hand(0, 6)", Check.NO_ARGUMENT, () -> x.hand(0, 6));
        check.due(8, "hand(0, -1)", Check.NO_ARGUMENT, () -> x.hand(0, -1));
        check.due(8, "hand(3, 0)", Check.NO_ELEMENT, () -> x.hand(3, 0));
        check.due(8, "hand(-1, 9)", Check.NO_ELEMENT, () -> x.hand(-1, 9));
        // who died otherwise than told keeps the year that was told
        PuppetHeirs y = family();
        y.dies(0);
        due(8, y, true, 0, 5, 0, 3, 2, 0, 0);
    }

    private static void puppets() {
        PuppetHeirs x = family();
        due(9, x, false, 0, 1, 1, 5, 1, 0, -1);
        due(9, x, false, 1, 2, 2, 4, 0, 2, -1);
        x.years(1);
        due(9, x, false, 1, 2, 2, 2, 3, 0, -1);
        x.years(2);
        due(9, x, false, 0, 1, 1, 0, 4, 0, 0);
        due(9, x, false, 1, 2, 2, 0, 6, 0, 0);
        check.due(9, "puppet(0, 6)", Check.NO_ARGUMENT, () -> x.puppet(0, 6));
        check.due(9, "puppet(0, -1)", Check.NO_ARGUMENT, () -> x.puppet(0, -1));
        check.due(9, "puppet(2, 0)", Check.NO_ELEMENT, () -> x.puppet(2, 0));
        check.due(9, "puppet(-1, 7)", Check.NO_ELEMENT, () -> x.puppet(-1, 7));
        // of some who ceased together the last by number
        PuppetHeirs y = Check.told("hand 1 0 2;hand 1 0 2;hand 1 0 0;puppet 1 2 9;works 0 0;works 1 0;");
        y.years(2);
        due(9, y, false, 0, 1, 2, 8, 4, 1, 1);
    }

    private static void due(int promise, PuppetHeirs x, boolean hand, int number, int... want) {
        for (int i = 0; i < want.length; i++) {
            int what = i;
            check.due(promise, (hand ? "hand(" : "puppet(") + number + ", " + i + ") in year " + x.told(3), want[i],
                () -> hand ? x.hand(number, what) : x.puppet(number, what));
        }
    }

    private static void acts() {
        PuppetHeirs x = family();
        check.due(10, "act(0, 0)", 3, () -> x.act(0, 0));
        check.due(10, "act(0, 1)", 3, () -> x.act(0, 1));
        check.due(10, "act(0, 2)", 3, () -> x.act(0, 2));
        check.due(10, "act(1, 1)", 1, () -> x.act(1, 1));
        check.due(10, "act(1, 2)", 1, () -> x.act(1, 2));
        check.due(10, "act(1, 3)", Check.NO_ARGUMENT, () -> x.act(1, 3));
        check.due(10, "act(1, -1)", Check.NO_ARGUMENT, () -> x.act(1, -1));
        check.due(10, "act(2, 0)", Check.NO_ELEMENT, () -> x.act(2, 0));
        check.due(10, "act(-1, 5)", Check.NO_ELEMENT, () -> x.act(-1, 5));
    }

    private static void scores() {
        PuppetHeirs x = Check.told("hand 5 0 1;hand 3 0 0;hand 8 0 0;hand 2 4 0;puppet 4 1 10;puppet 9 2 6;puppet 0 1 3;"
            + "works 0 0;works 1 1;works 2 1;works 1 2;");
        check.due(11, "score(0, 2)", 13, () -> x.score(0, 2));
        check.due(11, "kin: 2 works 1 with 1, who works 2", 14, () -> x.score(2, 2));
        check.due(11, "not kin by the puppet itself", 13, () -> x.score(1, 2));
        check.due(11, "not born", 4, () -> x.score(0, 3));
        Check.law(x, "year*10-age");
        x.years(2);
        check.due(11, "dead", 18, () -> x.score(0, 0));
        check.due(11, "YEARS since B, not born", 22, () -> x.score(0, 3));
        check.due(11, "score(3, 0)", Check.NO_ELEMENT, () -> x.score(3, 0));
        check.due(11, "score(0, 4)", Check.NO_ELEMENT, () -> x.score(0, 4));
        check.due(11, "score(-1, 0)", Check.NO_ELEMENT, () -> x.score(-1, 0));
        check.due(11, "score(0, -1)", Check.NO_ELEMENT, () -> x.score(0, -1));
        // kin by who worked it last, and not by himself
        PuppetHeirs y = Check.told("hand 1 0 0;hand 1 0 0;hand 1 0 0;puppet 1 1 1;puppet 1 2 1;works 0 0;works 0 1;works 1 1;");
        Check.law(y, "kin");
        check.due(11, "kin of 1 for 0", 1, () -> y.score(0, 1));
        check.due(11, "kin of 0 for 0", 0, () -> y.score(0, 0));
        y.give(0, 0, 2);
        check.due(11, "kin of 1 by who worked 0 last", 1, () -> y.score(0, 1));
        check.due(11, "kin of who worked 0 last", 0, () -> y.score(0, 0));
        check.due(11, "kin of 2", 0, () -> y.score(0, 2));
    }

    private static void choices() {
        PuppetHeirs x = Check.told("hand 1 0 0;hand 7 0 0;hand 7 0 0;hand 9 1 0;hand 8 0 0;"
            + "puppet 1 1 9;puppet 1 1 9;puppet 1 1 9;puppet 1 1 9;"
            + "works 4 1;works 4 2;works 4 3;quarrel 1 0;");
        Check.law(x, "limp");
        check.due(12, "not born, not who works 3, not who quarrelled", 2, () -> x.chooses(0));
        check.due(12, "of alike ones the least", 1, () -> x.chooses(1));
        x.years(1);
        check.due(12, "born now", 3, () -> x.puppet(0, 3) == 8 ? 3 : -1);
        check.due(12, "however many it has: not who works it", 2, () -> x.chooses(0));
        PuppetHeirs y = Check.told("hand 1 0 0;puppet 1 2 9;works 0 0;");
        check.due(12, "nobody", -1, () -> y.chooses(0));
        check.due(12, "chooses(1)", Check.NO_ELEMENT, () -> y.chooses(1));
        check.due(12, "chooses(-1)", Check.NO_ELEMENT, () -> y.chooses(-1));
        PuppetHeirs z = Check.told("hand 1 0 0;hand 1 0 0;puppet 1 2 9;");
        Check.law(z, "0-5-number");
        check.due(12, "scores below 0", 0, () -> z.chooses(0));
        Check.law(z, "number-5");
        check.due(12, "scores below 0", 1, () -> z.chooses(0));
    }
}
