/** Promises 13 to 22: years that go by, are undone or only asked, and what is done by hand. */
public final class YearsTest {
    private static final Check check = new Check();

    public static void main(String[] args) {
        oneByOne();
        choosing();
        undoing();
        barriers();
        asking();
        lasting();
        dying();
        stringing();
        giving();
        check.end();
    }

    private static PuppetHeirs family() {
        return Check.told("hand 5 0 3;hand 2 0 0;hand 2 1 0;puppet 1 1 5;puppet 2 2 4;works 0 0;wear 2;");
    }

    private static void oneByOne() {
        PuppetHeirs x = family();
        check.due(13, "years(1)", 1, () -> x.years(1));
        check.due(13, "puppet 1 chose two in one year", 3, () -> x.puppet(1, 3));
        check.due(13, "strings of 0", 3, () -> x.puppet(0, 2));
        check.due(13, "strings of 1", 2, () -> x.puppet(1, 2));
        check.due(13, "years(2)", 3, () -> x.years(2));
        check.due(13, "no less than 0 strings", 0, () -> x.puppet(0, 2));
        check.due(13, "hands of 0", 4, () -> x.puppet(0, 3));
        check.due(13, "hands of 1", 6, () -> x.puppet(1, 3));
        check.due(15, "since(0, 0)", 0, () -> x.since(0, 0));
        check.due(15, "since(0, 1)", 1, () -> x.since(0, 1));
        check.due(15, "since(1, 1)", 1, () -> x.since(1, 1));
        check.due(15, "since(2, 1)", 3, () -> x.since(2, 1));
        check.due(15, "since(1, 0)", -1, () -> x.since(1, 0));
        check.due(15, "since(3, 0)", Check.NO_ELEMENT, () -> x.since(3, 0));
        check.due(15, "since(0, 2)", Check.NO_ELEMENT, () -> x.since(0, 2));
        check.due(16, "chose(0): as told is not by choice", 1, () -> x.chose(0));
        check.due(16, "chose(2): the first", 0, () -> x.chose(2));
        check.due(16, "chose(3)", Check.NO_ELEMENT, () -> x.chose(3));
        check.due(16, "chose(-1)", Check.NO_ELEMENT, () -> x.chose(-1));
        check.due(13, "years(0)", Check.NO_ARGUMENT, () -> x.years(0));
        check.due(13, "years(61)", Check.NO_ARGUMENT, () -> x.years(61));
        check.due(13, "the year stays", 3, () -> x.told(3));
        check.due(13, "years(60)", 63, () -> x.years(60));
        x.years(60);
        x.years(60);
        check.due(13, "no further", 200, () -> x.years(60));
        check.due(13, "no further", 200, () -> x.years(1));
        check.due(14, "years that can be undone", 200, () -> x.count(2));
        check.due(14, "undo(60)", 60, () -> x.undo(60));
        check.due(14, "the year then", 140, () -> x.told(3));
    }

    private static void choosing() {
        // a puppet that lacks a hand does not wear; nobody takes a fourth puppet by choice
        PuppetHeirs x = Check.told("hand 1 0 0;puppet 1 1 9;puppet 1 1 9;puppet 1 1 9;puppet 1 1 9;puppet 1 2 9;quarrel 0 0;");
        x.years(1);
        check.due(13, "quarrelled", 0, () -> x.puppet(0, 3));
        check.due(13, "the first three", 14, () -> x.hand(0, 4));
        check.due(13, "strings", 9 + 8 + 8 + 8 + 9, () -> x.told(5));
        // dead on the year told, before puppets choose; born in the year, chosen in it
        PuppetHeirs y = Check.told("hand 1 0 2;hand 1 2 0;puppet 1 1 9;works 0 0;");
        y.years(2);
        check.due(13, "heir in the same year", 2, () -> y.puppet(0, 3));
        check.due(13, "and it wears", 7, () -> y.puppet(0, 2));
        // as all is then: the second choice sees the first
        PuppetHeirs z = Check.told("hand 2 0 0;hand 3 0 0;hand 3 0 0;puppet 1 1 9;puppet 1 1 9;");
        z.years(1);
        check.due(13, "puppet 0", 2, () -> z.puppet(0, 3));
        check.due(13, "puppet 1", 4, () -> z.puppet(1, 3));
        // the law sees the strings before they wear, and the new year
        PuppetHeirs w = Check.told("hand 2 0 0;hand 3 0 0;puppet 1 1 9;puppet 1 1 3;wear 9;");
        Check.law(w, "number * (strings % 2) * (year % 2)");
        w.years(1);
        check.due(13, "9 strings, year 1", 2, () -> w.puppet(0, 3));
        PuppetHeirs v = Check.told("hand 2 0 0;hand 3 0 0;puppet 1 1 9;wear 0;");
        Check.law(v, "number * (1 - year % 2)");
        v.years(2);
        check.due(13, "year 1", 1, () -> v.puppet(0, 3));
        check.due(13, "wear 0", 9, () -> v.puppet(0, 2));
    }

    private static void undoing() {
        PuppetHeirs x = family();
        x.years(3);
        check.due(14, "undo(0)", Check.NO_ARGUMENT, () -> x.undo(0));
        check.due(14, "undo(61)", Check.NO_ARGUMENT, () -> x.undo(61));
        check.due(14, "undo(1)", 1, () -> x.undo(1));
        check.due(14, "the year", 2, () -> x.told(3));
        check.due(14, "hand 0 lives", 1, () -> x.hand(0, 3));
        check.due(14, "hands of 1", 3, () -> x.puppet(1, 3));
        check.due(14, "strings", 1, () -> x.told(5));
        check.due(14, "since(2, 1)", -1, () -> x.since(2, 1));
        check.due(14, "chose(2)", -1, () -> x.chose(2));
        check.due(14, "worked last", -1, () -> x.puppet(0, 5));
        check.due(14, "undo(60)", 2, () -> x.undo(60));
        check.due(14, "as told", 9, () -> x.told(5));
        check.due(14, "undo(1)", 0, () -> x.undo(1));
        x.years(2);
        x.undo(1);
        x.years(1);
        check.due(14, "years behind an undo", 2, () -> x.count(2));
    }

    private static void barriers() {
        PuppetHeirs x = family();
        x.years(2);
        Check.law(x, "limp limp");
        check.due(14, "a faulty law", 2, () -> x.count(2));
        Check.book(x, "1 0 0;");
        check.due(14, "a book", 2, () -> x.count(2));
        x.image();
        check.due(14, "an image", 2, () -> x.count(2));
        x.dies(2);
        check.due(14, "dies()", 0, () -> x.count(2));
        x.years(2);
        x.string(0, 1);
        check.due(14, "string()", 0, () -> x.count(2));
        check.due(14, "undo() stops there", 0, () -> x.undo(5));
        x.years(1);
        x.give(1, 1, 1);
        check.due(14, "a give() that gives nothing", 1, () -> x.count(2));
        x.restore();
        check.due(14, "restore()", 0, () -> x.count(2));
        x.years(1);
        x.restore();
        check.due(14, "a restore() of nothing", 1, () -> x.count(2));
        Check.law(x, "limp");
        check.due(14, "law()", 0, () -> x.count(2));
        x.years(1);
        x.dies(0);
        check.due(14, "a dies() of the dead", 1, () -> x.count(2));
        Check.family(x, "hand");
        check.due(14, "a faulty family", 1, () -> x.count(2));
        x.undo(1);
        check.due(14, "undone to the law", 3, () -> x.told(3));
        PuppetHeirs y = Check.told("hand 1 0 0;hand 1 0 0;puppet 1 1 9;works 0 0;");
        y.years(3);
        y.give(0, 0, 1);
        check.due(14, "give()", 0, () -> y.count(2));
        y.years(2);
        y.undo(9);
        check.due(14, "what was given stays", 2, () -> y.puppet(0, 3));
        check.due(14, "in its year", 3, () -> y.told(3));
    }

    private static void asking() {
        PuppetHeirs x = family();
        int[] of1 = {0, 3, 3, 6};
        for (int years = 0; years < 4; years++) {
            int n = years;
            check.due(17, "ahead(1, " + n + ")", of1[n], () -> x.ahead(1, n));
        }
        check.due(17, "ahead(0, 60)", 4, () -> x.ahead(0, 60));
        check.due(17, "ahead(0, 61)", Check.NO_ARGUMENT, () -> x.ahead(0, 61));
        check.due(17, "ahead(0, -1)", Check.NO_ARGUMENT, () -> x.ahead(0, -1));
        check.due(17, "ahead(2, 61)", Check.NO_ELEMENT, () -> x.ahead(2, 61));
        check.due(18, "when(0, 1)", 1, () -> x.when(0, 1));
        check.due(18, "when(2, 0)", 3, () -> x.when(2, 0));
        check.due(18, "when(0, 0): from the next year on", 1, () -> x.when(0, 0));
        check.due(18, "when(1, 0)", -1, () -> x.when(1, 0));
        check.due(18, "when(3, 0)", Check.NO_ELEMENT, () -> x.when(3, 0));
        check.due(18, "when(0, 2)", Check.NO_ELEMENT, () -> x.when(0, 2));
        check.due(18, "nothing stays changed", 0, () -> x.told(3));
        x.years(1);
        check.due(18, "the year itself, not how many", 3, () -> x.when(2, 0));
        x.years(2);
        check.due(18, "he is dead", -1, () -> x.when(0, 0));
        PuppetHeirs y = Check.told("hand 1 0 60;hand 1 0 0;puppet 1 1 9;works 0 0;");
        check.due(18, "the 60th year", 60, () -> y.when(1, 0));
        PuppetHeirs z = Check.told("hand 1 0 0;hand 0 40 0;puppet 1 1 9;works 0 0;");
        check.due(18, "never", -1, () -> z.when(1, 0));
    }

    private static void lasting() {
        PuppetHeirs x = Check.told("hand 1 0 0;hand 1 0 4;puppet 1 1 9;puppet 1 1 9;puppet 1 1 30;works 0 0;works 1 1;"
            + "quarrel 0 2;quarrel 1 2;act 7 0 end;act 0 0 1 end;act 9 2 end;act 0 0 end;");
        check.due(19, "last(0): 9 - 3 strings", 3, () -> x.last(0));
        check.due(19, "last(1): a hand dies", 4, () -> x.last(1));
        check.due(19, "last(2): can't be cast, and never could", 1, () -> x.last(2));
        check.due(19, "last(3)", -1, () -> x.last(3));
        check.due(19, "last(4)", Check.NO_ELEMENT, () -> x.last(4));
        x.years(2);
        check.due(19, "last(0) in year 2", 3, () -> x.last(0));
        x.years(2);
        check.due(19, "last(0) in year 4", 5, () -> x.last(0));
        check.due(19, "nothing stays changed", 4, () -> x.told(3));
        // puppet 3 wears from year 40 on, when there is a hand for it: 21 strings last to year 60, 22 longer than asked
        String late = "hand 1 0 0;hand 1 40 0;puppet 1 1 0;puppet 1 1 0;puppet 1 1 0;works 0 0;works 0 1;works 0 2;act 1 3 end;";
        PuppetHeirs w = Check.told(late.replace("works 0 0;", "puppet 1 1 21;works 0 0;"));
        check.due(19, "the 60th year", 60, () -> w.last(0));
        check.due(45, "the 60th year", 60, () -> w.fades(3));
        PuppetHeirs v = Check.told(late.replace("works 0 0;", "puppet 1 1 22;works 0 0;"));
        check.due(19, "the 61st year", -1, () -> v.last(0));
        check.due(45, "the 61st year", -1, () -> v.fades(3));
        // it can be cast later, but is asked for the first year in which it can't
        PuppetHeirs y = Check.told("hand 1 3 0;puppet 1 1 9;act 0 0 end;");
        check.due(19, "not yet", 1, () -> y.last(0));
    }

    private static void dying() {
        PuppetHeirs x = Check.told("hand 1 0 0;hand 1 0 0;hand 1 5 0;puppet 1 2 9;puppet 1 1 9;works 0 0;works 1 0;works 0 1;");
        check.due(20, "dies(0)", 2, () -> x.dies(0));
        check.due(20, "dies(0) again", -1, () -> x.dies(0));
        check.due(20, "dies(2): not born", -1, () -> x.dies(2));
        check.due(20, "he works nothing", 0, () -> x.hand(0, 4));
        check.due(20, "dead", 2, () -> x.hand(0, 3));
        check.due(20, "worked last", 0, () -> x.puppet(1, 5));
        check.due(20, "nobody is chosen yet", 0, () -> x.puppet(1, 3));
        check.due(20, "dies(1)", 1, () -> x.dies(1));
        check.due(20, "worked last", 1, () -> x.puppet(0, 5));
        check.due(20, "worked last, the other", 0, () -> x.puppet(1, 5));
        check.due(20, "dies(3)", Check.NO_ELEMENT, () -> x.dies(3));
        check.due(20, "dies(-1)", Check.NO_ELEMENT, () -> x.dies(-1));
        x.years(1);
        check.due(20, "nobody left", 3, () -> x.orphans());
        PuppetHeirs y = Check.told("hand 1 0 0;");
        check.due(20, "who works nothing", 0, () -> y.dies(0));
    }

    private static void stringing() {
        PuppetHeirs x = Check.told("puppet 1 1 3;puppet 1 1 29;");
        check.due(21, "string(0, 9)", 12, () -> x.string(0, 9));
        check.due(21, "string(1, 1)", 30, () -> x.string(1, 1));
        check.due(21, "string(0, 30)", 30, () -> x.string(0, 30));
        check.due(21, "string(0, 0)", Check.NO_ARGUMENT, () -> x.string(0, 0));
        check.due(21, "string(0, 31)", Check.NO_ARGUMENT, () -> x.string(0, 31));
        check.due(21, "string(2, 31)", Check.NO_ELEMENT, () -> x.string(2, 31));
        check.due(21, "in all", 60, () -> x.told(5));
    }

    private static void giving() {
        PuppetHeirs x = Check.told("hand 1 0 0;hand 1 0 0;hand 1 0 0;hand 1 7 0;hand 1 0 0;"
            + "puppet 1 2 9;puppet 1 1 9;puppet 1 1 9;puppet 1 1 9;"
            + "works 0 0;works 1 0;works 2 1;works 2 2;works 2 3;quarrel 4 1;");
        check.due(22, "does not work it", 0, () -> x.give(1, 0, 1));
        check.due(22, "works it already", 0, () -> x.give(0, 0, 1));
        check.due(22, "to himself", 0, () -> x.give(0, 0, 0));
        check.due(22, "works 3", 0, () -> x.give(0, 0, 2));
        check.due(22, "not born", 0, () -> x.give(0, 0, 3));
        check.due(22, "quarrelled", 0, () -> x.give(1, 2, 4));
        check.due(22, "given", 1, () -> x.give(0, 0, 4));
        check.due(22, "hands", 18, () -> x.puppet(0, 3));
        check.due(22, "worked last", 0, () -> x.puppet(0, 5));
        check.due(22, "since", 0, () -> x.since(4, 0));
        check.due(22, "not by choice", -1, () -> x.chose(4));
        check.due(22, "gives and takes", 1, () -> x.give(3, 2, 0));
        check.due(22, "works 2 now", 1, () -> x.give(0, 4, 2));
        x.dies(1);
        check.due(22, "dead", 0, () -> x.give(1, 2, 1));
        x.years(3);
        x.give(1, 2, 0);
        check.due(22, "since year 3", 3, () -> x.since(0, 1));
        check.due(22, "give(4, 0, 0)", Check.NO_ELEMENT, () -> x.give(4, 0, 0));
        check.due(22, "give(0, 5, 0)", Check.NO_ELEMENT, () -> x.give(0, 5, 0));
        check.due(22, "give(0, 0, 5)", Check.NO_ELEMENT, () -> x.give(0, 0, 5));
        check.due(22, "give(0, 0, -1)", Check.NO_ELEMENT, () -> x.give(0, 0, -1));
    }
}
