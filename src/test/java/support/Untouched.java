/**
 * Calls that throw or are REFUSED, each on registers of their own, and what they must leave as it was. A
 * register is made anew for each look at all of it, as an object is asked 512 times at most.
 */
final class Untouched {
    interface Made {
        Parishbook make();
    }

    interface Deed {
        Object on(Parishbook book);
    }

    private Untouched() {
    }

    /** A call that throws this; nothing at all has changed behind it, nor in the STEPS that are kept. */
    static void byThrow(String what, String thrown, Made made, Deed deed) {
        Parishbook book = made.make();
        String before = Whole.counted(book);
        Check.due(what, "throws." + thrown, () -> deed.on(book));
        Check.due("all behind " + what, before, () -> Whole.counted(book));
        stepsAreAsAhead(what, made, book);
    }

    static void byArgument(String what, Made made, Deed deed) {
        byThrow(what, "IllegalArgumentException", made, deed);
    }

    static void byState(String what, Made made, Deed deed) {
        byThrow(what, "IllegalStateException", made, deed);
    }

    static void byIndex(String what, Made made, Deed deed) {
        byThrow(what, "IndexOutOfBoundsException", made, deed);
    }

    /** A call that answers REFUSED; only how often REFUSED was told has changed behind it. */
    static void byRefusal(String what, Made made, Deed deed) {
        String before = Whole.kept(made.make());
        Parishbook book = made.make();
        int refusals = book.house(7);
        int knocks = book.house(8);
        int steps = book.house(6);
        Check.due(what, -9, () -> deed.on(book));
        Check.due("how often refused behind " + what, refusals + 1, () -> book.house(7));
        Check.due("how often knocked behind " + what, knocks, () -> book.house(8));
        Check.due("steps behind " + what, steps, () -> book.house(6));
        Parishbook twin = made.make();
        deed.on(twin);
        Check.due("all behind " + what, before, () -> Whole.kept(twin));
        stepsAreAsAhead(what, made, book);
    }

    private static void stepsAreAsAhead(String what, Made made, Parishbook book) {
        Parishbook twin = made.make();
        Check.due("steps back behind " + what, Whole.ahead(twin), () -> Whole.ahead(book));
        Check.due("signs behind " + what, twin.wipe(), () -> book.wipe());
    }
}
