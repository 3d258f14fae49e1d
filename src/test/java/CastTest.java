/** Promises 23 to 28, 46, 47 and 49: acts cast with hands. */
public final class CastTest {
    private static final Check check = new Check();

    public static void main(String[] args) {
        ways();
        firstWay();
        manyWays();
        lacking();
        playedAndCost();
        both();
        thumbs();
        reach();
        check.end();
    }

    /** Hand 1 dies in year 2, hand 3 comes in year 1; 0 has quarrelled with puppet 1 and is silent to 2. */
    private static PuppetHeirs family() {
        PuppetHeirs x = Check.told("hand 5 0 0;hand 3 0 2;hand 8 0 0;hand 2 1 0;puppet 4 1 10;puppet 9 2 6;puppet 0 1 3;"
            + "quarrel 0 1;silent 0 2;act 3 0 1 end;act 5 2 end;act 3 1 0 end;");
        x.years(1);
        return x;
    }

    private static void ways() {
        PuppetHeirs x = family();
        check.due(23, "casts(0)", 4, () -> x.casts(0));
        check.due(23, "too few strings", 0, () -> x.casts(1));
        x.string(2, 3);
        check.due(23, "as many strings as laughs", 4, () -> x.casts(1));
        x.dies(1);
        check.due(23, "without 1: 2 and 3 for puppet 1, 0 is silent to 2", 0, () -> x.casts(0));
        check.due(23, "casts(3)", Check.NO_ELEMENT, () -> x.casts(3));
        check.due(23, "casts(-1)", Check.NO_ELEMENT, () -> x.casts(-1));
        // hands need not work the puppet; who is not alive is in no cast
        PuppetHeirs y = Check.told("hand 1 0 0;hand 1 3 0;puppet 1 1 9;act 0 0 end;");
        check.due(23, "one alive", 1, () -> y.casts(0));
        y.dies(0);
        check.due(23, "nobody alive", 0, () -> y.casts(0));
        // two hands of one puppet are no two puppets' hands: unlike by who works what
        PuppetHeirs z = Check.told("hand 1 0 0;hand 1 0 0;hand 1 0 0;puppet 1 2 9;puppet 1 1 9;act 0 0 1 end;act 0 0 end;");
        check.due(23, "three of 2 and 1", 3, () -> z.casts(0));
        check.due(23, "pairs of three", 3, () -> z.casts(1));
    }

    private static void firstWay() {
        PuppetHeirs x = family();
        check.due(24, "cast(0, 0)", 1, () -> x.cast(0, 0));
        check.due(24, "cast(0, 1)", 10, () -> x.cast(0, 1));
        check.due(24, "not in it", 0, () -> x.cast(0, 2));
        check.due(24, "no cast", 0, () -> x.cast(1, 2));
        check.due(24, "as told in the act: 1 ahead of 0", 6, () -> x.cast(2, 1));
        check.due(24, "then 0", 8, () -> x.cast(2, 0));
        check.due(24, "cast(3, 0)", Check.NO_ELEMENT, () -> x.cast(3, 0));
        check.due(24, "cast(0, 3)", Check.NO_ELEMENT, () -> x.cast(0, 3));
        check.due(24, "cast(0, -1)", Check.NO_ELEMENT, () -> x.cast(0, -1));
        // sets by their bits: 0 and 3 (9) stand behind 1 and 2 (6)
        PuppetHeirs y = Check.told("hand 1 0 0;hand 1 0 0;hand 1 0 0;hand 1 0 0;puppet 1 2 9;"
            + "silent 0 1;silent 0 2;act 0 0 end;");
        check.due(24, "1 and 2 ahead of 0 and 3", 6, () -> y.cast(0, 0));
    }

    private static void manyWays() {
        String nine = "hand 1 0 0;".repeat(9);
        PuppetHeirs x = Check.told(nine + "puppet 1 1 9;".repeat(6) + "act 0 0 1 2 3 4 5 end;");
        check.due(23, "9 * 8 * 7 * 6 * 5 * 4", 60480, () -> x.casts(0));
        PuppetHeirs y = Check.told(nine + "puppet 1 2 9;".repeat(2) + "puppet 1 1 9;".repeat(4) + "act 0 5 4 3 2 1 0 end;");
        check.due(23, "9! / 4", 90720, () -> y.casts(0));
        check.due(24, "the last told gets the first", 1, () -> y.cast(0, 5));
        check.due(24, "puppet 0", 0xC0, () -> y.cast(0, 0));
        PuppetHeirs z = Check.told(nine + "puppet 1 2 9;".repeat(5) + "act 0 0 1 2 3 4 end;");
        check.due(23, "ten of nine hands", 0, () -> z.casts(0));
        check.due(24, "no cast", 0, () -> z.cast(0, 0));
    }

    private static void lacking() {
        PuppetHeirs x = Check.told("hand 1 0 0;hand 1 0 0;hand 1 9 0;puppet 1 2 9;puppet 2 1 9;puppet 1 1 9;quarrel 0 0;"
            + "act 2 0 1 end;act 2 1 end;act 9 1 2 end;act 9 2 1 0 end;");
        check.due(25, "0 has one hand of two", 1, () -> x.lacking(0));
        check.due(25, "hands suffice", 0, () -> x.lacking(1));
        check.due(25, "hands suffice", 0, () -> x.lacking(2));
        check.due(25, "the fewest puppets", 1, () -> x.lacking(3));
        check.due(25, "lacking(4)", Check.NO_ELEMENT, () -> x.lacking(4));
        check.due(25, "lacking(-1)", Check.NO_ELEMENT, () -> x.lacking(-1));
        x.years(9);
        check.due(25, "three hands: 0 has two, all need four", 7, () -> x.lacking(3));
        PuppetHeirs y = Check.told("hand 1 0 0;hand 1 0 0;puppet 1 1 9;puppet 1 1 9;puppet 1 1 0;silent 0 1;"
            + "quarrel 1 1;quarrel 1 2;act 9 2 1 0 end;act 9 0 2 end;");
        check.due(25, "1 and 2 have hand 0 alone", 6, () -> y.lacking(0));
        check.due(25, "silence and strings not asked", 0, () -> y.lacking(1));
        PuppetHeirs z = Check.told("hand 1 0 0;hand 1 0 0;puppet 1 2 9;puppet 1 1 9;puppet 1 2 9;act 0 0 1 2 end;act 0 2 1 end;");
        check.due(25, "of alike ones the least bits", 3, () -> z.lacking(0));
        check.due(25, "only of its own puppets", 6, () -> z.lacking(1));
    }

    private static void playedAndCost() {
        PuppetHeirs x = family();
        check.due(26, "played()", 5, x::played);
        check.due(27, "cost(0)", 0, () -> x.cost(0));
        check.due(27, "cost(1)", 2, () -> x.cost(1));
        check.due(27, "cost(2)", 0, () -> x.cost(2));
        check.due(27, "cost(3)", 2, () -> x.cost(3));
        check.due(28, "of alike ones the first", 1, x::dearest);
        check.due(27, "cost(4)", Check.NO_ELEMENT, () -> x.cost(4));
        check.due(27, "cost(-1)", Check.NO_ELEMENT, () -> x.cost(-1));
        check.due(27, "nobody is dead", 4, () -> x.told(4));
        x.string(2, 3);
        check.due(26, "played()", 7, x::played);
        x.dies(1);
        check.due(26, "played()", 2, x::played);
        check.due(27, "cost of the dead", 0, () -> x.cost(1));
        check.due(28, "all alike", 0, x::dearest);
        x.dies(0);
        check.due(28, "the first who is alive", 2, x::dearest);
        x.dies(2);
        check.due(27, "cost(3)", 1, () -> x.cost(3));
        check.due(28, "dearest()", 3, x::dearest);
        x.dies(3);
        check.due(28, "nobody is alive", -1, x::dearest);
        check.due(26, "played()", 0, x::played);
    }

    private static void both() {
        PuppetHeirs x = Check.told("hand 1 0 0;hand 1 0 0;hand 1 0 0;puppet 1 1 3;puppet 1 1 9;puppet 1 2 9;"
            + "act 3 0 end;act 9 1 end;act 0 2 end;act 0 1 2 end;act 4 0 end;silent 0 1;");
        due(x, 0, 1, 1);
        due(x, 1, 0, 1);
        due(x, 0, 2, 0);
        due(x, 1, 3, 0);
        due(x, 1, 4, 0);
        due(x, 0, 0, Check.NO_ARGUMENT);
        due(x, 0, 5, Check.NO_ELEMENT);
        due(x, 5, 5, Check.NO_ELEMENT);
        due(x, -1, 0, Check.NO_ELEMENT);
        PuppetHeirs z = Check.told("hand 1 0 0;hand 1 0 0;puppet 1 1 3;puppet 1 1 9;quarrel 0 0;act 3 0 end;act 9 1 end;");
        due(z, 0, 1, 1);
        PuppetHeirs y = Check.told("hand 1 0 0;".repeat(9) + "puppet 1 1 9;".repeat(7) + "puppet 1 2 9;"
            + "act 0 0 1 2 3 4 5 end;act 0 6 7 end;act 0 6 end;act 0 5 6 end;");
        due(y, 0, 1, 1);
        due(y, 0, 2, 1);
        due(y, 0, 3, 0);
        y.dies(8);
        due(y, 0, 1, 0);
        due(y, 0, 2, 1);
    }

    private static void due(PuppetHeirs x, int act, int other, int want) {
        check.due(46, "both(" + act + ", " + other + ")", want, () -> x.both(act, other) ? 1 : 0);
    }

    private static void thumbs() {
        PuppetHeirs x = family();
        check.due(47, "thumbs(0)", 10, () -> x.thumbs(0));
        check.due(47, "no cast", 0, () -> x.thumbs(1));
        check.due(47, "thumbs(3)", Check.NO_ELEMENT, () -> x.thumbs(3));
        check.due(47, "thumbs(-1)", Check.NO_ELEMENT, () -> x.thumbs(-1));
        PuppetHeirs y = Check.told("hand 1 0 0;hand 1 0 0;hand 1 0 0;puppet 1 2 9;puppet 1 1 9;act 0 0 1 end;act 0 0 end;");
        check.due(47, "all three", 7, () -> y.thumbs(0));
        check.due(47, "none is in each", 0, () -> y.thumbs(1));
    }

    private static void reach() {
        PuppetHeirs x = family();
        check.due(49, "reach(0)", 1, () -> x.reach(0));
        check.due(49, "reach(1)", 3, () -> x.reach(1));
        check.due(49, "reach(2)", 3, () -> x.reach(2));
        check.due(49, "reach(3)", 3, () -> x.reach(3));
        x.string(2, 3);
        check.due(49, "puppet 2 too", 5, () -> x.reach(0));
        x.years(1);
        check.due(49, "the dead", 0, () -> x.reach(1));
        check.due(49, "reach(4)", Check.NO_ELEMENT, () -> x.reach(4));
        check.due(49, "reach(-1)", Check.NO_ELEMENT, () -> x.reach(-1));
        // a way that starts well but can't be ended is no cast
        PuppetHeirs y = Check.told("hand 1 0 0;hand 1 0 0;puppet 1 1 9;puppet 1 1 9;quarrel 1 1;act 0 0 1 end;");
        check.due(49, "0 is needed for puppet 1", 2, () -> y.reach(0));
        check.due(49, "1 works puppet 0", 1, () -> y.reach(1));
    }
}
