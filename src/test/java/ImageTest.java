/** Promises 53 to 56: images, refusals, counts. */
public final class ImageTest {
    private static final Check check = new Check();

    public static void main(String[] args) {
        images();
        whatIsKept();
        refusals();
        counts();
        check.end();
    }

    private static PuppetHeirs family() {
        return Check.told("hand 5 0 3;hand 2 0 0;hand 2 1 0;puppet 1 1 5;puppet 2 2 4;works 0 0;wear 2;");
    }

    private static void images() {
        PuppetHeirs x = family();
        check.due(54, "none", -1, x::restore);
        check.due(53, "first", 1, x::image);
        x.years(1);
        check.due(53, "second", 2, x::image);
        x.years(2);
        check.due(53, "third", 3, x::image);
        x.years(4);
        check.due(53, "no fourth", -1, x::image);
        check.due(56, "images", 3, () -> x.count(0));
        check.due(54, "two left", 2, x::restore);
        check.due(54, "year 3", 3, () -> x.told(3));
        check.due(54, "nothing to undo", 0, () -> x.undo(5));
        x.years(9);
        check.due(53, "third again", 3, x::image);
        check.due(54, "two left", 2, x::restore);
        check.due(54, "year 12", 12, () -> x.told(3));
        check.due(54, "one left", 1, x::restore);
        check.due(54, "year 1", 1, () -> x.told(3));
        check.due(54, "none left", 0, x::restore);
        check.due(54, "year 0", 0, () -> x.told(3));
        check.due(54, "none", -1, x::restore);
        check.due(56, "images", 0, () -> x.count(0));
    }

    private static void whatIsKept() {
        PuppetHeirs x = family();
        x.image();
        x.dies(0);
        x.string(0, 9);
        x.years(2);
        check.due(55, "a refusal", Check.NO_ELEMENT, () -> x.hand(9, 0));
        check.due(4, "a law", 1, () -> Check.law(x, "7"));
        x.image();
        x.restore();
        Check.book(x, "3 0 0;1 0 0;");
        check.due(6, "a fault", -9, () -> Check.law(x, "x"));
        x.feed(0, 0, 0, 0, 0);
        check.due(54, "restored", 0, x::restore);
        check.due(54, "hand 0 lives", 1, () -> x.hand(0, 3));
        check.due(54, "and works", 1, () -> x.hand(0, 4));
        check.due(54, "strings", 9, () -> x.told(5));
        check.due(54, "since", -1, () -> x.since(1, 0));
        check.due(54, "chose", -1, () -> x.chose(1));
        check.due(54, "worked last", -1, () -> x.puppet(0, 5));
        check.due(54, "the law stays", 7, () -> x.score(0, 0));
        check.due(54, "the book stays", 2, () -> x.told(6));
        check.due(54, "the fault stays", 0, x::fault);
        check.due(54, "the tape stays", 20, () -> x.count(1));
        check.due(55, "the refusals stay", 1, () -> x.status(0));
    }

    private static void refusals() {
        PuppetHeirs x = family();
        check.due(55, "none yet", 0, () -> x.status(0));
        check.due(55, "none yet", 0, () -> x.status(1));
        check.due(8, "hand(5, 9)", Check.NO_ELEMENT, () -> x.hand(5, 9));
        check.due(8, "hand(0, 9)", Check.NO_ARGUMENT, () -> x.hand(0, 9));
        check.due(7, "told(9)", Check.NO_ARGUMENT, () -> x.told(9));
        check.due(22, "give(9, 9, 9) is refused once", Check.NO_ELEMENT, () -> x.give(9, 9, 9));
        check.due(6, "a fault is no refusal", -9, () -> Check.family(x, "x"));
        check.due(54, "nothing to restore is none", -1, x::restore);
        check.due(55, "status(0)", 2, () -> x.status(0));
        check.due(55, "status(1)", 2, () -> x.status(1));
        Check.family(x, "wear 2;");
        check.due(55, "a new family keeps them", 2, () -> x.status(0));
        check.due(55, "status(2)", -1, () -> x.status(2));
        check.due(55, "status(-1)", -1, () -> x.status(-1));
        check.due(55, "that was no refusal", 2, () -> x.status(1));
    }

    private static void counts() {
        PuppetHeirs x = family();
        x.image();
        x.feed(0, 0, 0, 0, 0);
        x.feed(0, 0, 0, 0, 0);
        x.years(7);
        x.undo(2);
        check.due(56, "images", 1, () -> x.count(0));
        check.due(56, "bytes", 40, () -> x.count(1));
        check.due(56, "years", 5, () -> x.count(2));
        check.due(56, "count(3)", -1, () -> x.count(3));
        check.due(56, "count(-1)", -1, () -> x.count(-1));
        check.due(56, "count(MIN)", -1, () -> x.count(Integer.MIN_VALUE));
    }
}
