/** Calls that throw: the exception that is named first, and that nothing has changed behind it. */
public final class ExceptionsTest {
    private static final int LAST = 73413;

    private ExceptionsTest() {
    }

    public static void main(String[] args) {
        ofNone(Registers::empty, "the empty one");
        ofNone(Registers::small, "a small one");
        ofNone(Registers::impossible, "one that is not possible");
        ofNone(Registers::full, "the full one");
        entriesInOrder();
        closedInOrder();
        pairsInOrder();
        demandsInOrder();
        sayingsInOrder();
        questionsInOrder();
        wrongArguments();
        noUndo();
        Check.end();
    }

    /** Calls for what no register has, whatever stands in it; other arguments may be wrong too. */
    private static void ofNone(Untouched.Made made, String what) {
        for (int none : new int[] {-1, 24, Integer.MAX_VALUE}) {
            String of = " of " + none + " of " + what;
            Untouched.byIndex("mention" + of, made, x -> x.mention(none, 3));
            Untouched.byIndex("put" + of, made, x -> x.put(none, 6, 5));
            Untouched.byIndex("age" + of, made, x -> x.age(none, 100));
            Untouched.byIndex("close" + of, made, x -> x.close(none));
            Untouched.byIndex("twins" + of, made, x -> x.twins(none, none));
            Untouched.byIndex("same" + of, made, x -> x.same(none, none));
            Untouched.byIndex("demand" + of, made, x -> x.demand(none, none, 40001));
            Untouched.byIndex("undemand" + of, made, x -> x.undemand(none));
            Untouched.byIndex("join" + of, made, x -> x.join(none, none, 10));
            Untouched.byIndex("part" + of, made, x -> x.part(none, none));
            Untouched.byIndex("unsay" + of, made, x -> x.unsay(none));
            Untouched.byIndex("nick" + of, made, x -> x.nick(none, none));
            Untouched.byIndex("forebear" + of, made, x -> x.forebear(none, 0));
            Untouched.byIndex("alive" + of, made, x -> x.alive(none, -1));
            Untouched.byIndex("household" + of, made, x -> x.household(none, 1599));
            Untouched.byIndex("ofEntry" + of, made, x -> x.ofEntry(none, 10));
            Untouched.byIndex("ofMention" + of, made, x -> x.ofMention(none, 9));
        }
        Untouched.byArgument("enter in " + what, made, x -> x.enter(4, 6, 5, 2));
        Untouched.byArgument("match in " + what, made, x -> x.match(0, 0, 0, 0, 4));
        Untouched.byArgument("house of " + what, made, x -> x.house(12));
        Untouched.byArgument("type in " + what, made, x -> x.type(14));
        Untouched.byArgument("pen in " + what, made, x -> x.pen(1, 0, 1, 0, 0, 0));
        Untouched.byArgument("gap of " + what, made, x -> x.gap(2, 0));
    }

    private static void entriesInOrder() {
        Untouched.byState("an eleventh entry", Registers::full, x -> x.enter(0, 0, LAST, 0));
        Untouched.byArgument("an eleventh one of kind 4", Registers::full, x -> x.enter(4, 0, LAST, 0));
        Untouched.byArgument("an eleventh one from -1", Registers::full, x -> x.enter(0, -1, LAST, 0));
        Untouched.byArgument("an eleventh one to 73414", Registers::full, x -> x.enter(0, 0, LAST + 1, 0));
        Untouched.byArgument("an eleventh one to ahead of from", Registers::full, x -> x.enter(0, 1, 0, 0));
        Untouched.byArgument("an eleventh one in book 2", Registers::full, x -> x.enter(0, 0, LAST, 2));
        Untouched.byState("a fifteenth sign", Registers::full, x -> x.type(0));
        Untouched.byArgument("a fifteenth sign that is none", Registers::full, x -> x.type(-1));
        Untouched.byState("a mention where one is", Registers::small, x -> x.mention(0, 0));
        Untouched.byArgument("a role that is none, where three are", Registers::small, x -> x.mention(0, 3));
        Untouched.byArgument("a third role of a death", Registers::small, x -> x.mention(3, 2));
        Untouched.byState("a twenty-fifth mention", Registers::full, x -> x.mention(7, 0));
        Untouched.byState("a twenty-fifth one where one is", Registers::full, x -> x.mention(6, 0));
        Untouched.byArgument("a twenty-fifth one without a role", Registers::full, x -> x.mention(7, -1));
        Untouched.byIndex("a twenty-fifth one without an entry", Registers::full, x -> x.mention(10, 0));
        Untouched.byArgument("put to ahead of from", Registers::small, x -> x.put(0, 1, 0));
        Untouched.byArgument("age 100", Registers::small, x -> x.age(2, 100));
        Untouched.byArgument("age of a birth", Registers::small, x -> x.age(0, 20));
    }

    private static void closedInOrder() {
        for (int e = 0; e < 4; e++) {
            int entry = e;
            Untouched.byState("put of a closed one", Registers::closed, x -> x.put(entry, 5, 6));
            Untouched.byArgument("put backwards of a closed one", Registers::closed, x -> x.put(entry, 6, 5));
            Untouched.byArgument("put of a closed one to 73414", Registers::closed, x -> x.put(entry, 0, LAST + 1));
            Untouched.byArgument("put of a closed one from -1", Registers::closed, x -> x.put(entry, -1, 0));
            Untouched.byState("a mention in a closed one", Registers::closed, x -> x.mention(entry, 0));
            Untouched.byArgument("a mention in none of its roles", Registers::closed, x -> x.mention(entry, 3));
            Untouched.byThrow("age of a closed one", entry < 2 ? "IllegalArgumentException" : "IllegalStateException",
                    Registers::closed, x -> x.age(entry, 20));
            Untouched.byArgument("age 100 of a closed one", Registers::closed, x -> x.age(entry, 100));
            Untouched.byArgument("age -2 of a closed one", Registers::closed, x -> x.age(entry, -2));
            Untouched.byState("a mention where none is, in a closed one", () -> closedWithoutMentions(entry),
                    x -> x.mention(0, 1));
        }
        Untouched.byIndex("put of entry 4 of closed ones", Registers::closed, x -> x.put(4, 6, 5));
        Untouched.byArgument("role 2 of a closed death", Registers::closed, x -> x.mention(3, 2));
    }

    private static Parishbook closedWithoutMentions(int kind) {
        Parishbook book = new Parishbook();
        book.enter(kind, 3, 4, 1);
        book.close(0);
        return book;
    }

    private static void pairsInOrder() {
        Untouched.byIndex("twins of one that is none with itself", Registers::full, x -> x.twins(10, 10));
        Untouched.byIndex("twins of a baptism with none", Registers::full, x -> x.twins(6, 10));
        Untouched.byIndex("twins of none with a baptism", Registers::full, x -> x.twins(-1, 6));
        Untouched.byArgument("a fifth pair of twins that is one birth", Registers::full, x -> x.twins(1, 1));
        Untouched.byArgument("a fifth pair of twins, one a baptism", Registers::full, x -> x.twins(1, 6));
        Untouched.byArgument("a fifth pair of twins, the first a wedding", Registers::full, x -> x.twins(8, 1));
        Untouched.byState("a fifth pair of twins", Registers::full, x -> x.twins(1, 4));
        Untouched.byState("a fifth pair of twins that is one", Registers::full, x -> x.twins(2, 0));
        Untouched.byState("a fifth pair of twins that are the same", Registers::full, x -> x.twins(1, 0));
        Untouched.byState("twins twice", ExceptionsTest::births, x -> x.twins(0, 1));
        Untouched.byState("twins twice, the other way round", ExceptionsTest::births, x -> x.twins(1, 0));
        Untouched.byState("the same as twins", ExceptionsTest::births, x -> x.twins(2, 3));
        Untouched.byState("the same as twins, the other way round", ExceptionsTest::births, x -> x.twins(3, 2));
        Untouched.byIndex("same of one that is none with itself", Registers::full, x -> x.same(10, 10));
        Untouched.byIndex("same with none", Registers::full, x -> x.same(0, 10));
        Untouched.byArgument("a fifth pair of the same that is one entry", Registers::full, x -> x.same(1, 1));
        Untouched.byArgument("a fifth pair of the same, of unlike kinds", Registers::full, x -> x.same(0, 7));
        Untouched.byArgument("a fifth pair of the same, in one book", Registers::full, x -> x.same(0, 2));
        Untouched.byState("a fifth pair of the same", Registers::full, x -> x.same(0, 3));
        Untouched.byState("a fifth pair of the same that is one", Registers::full, x -> x.same(1, 0));
        Untouched.byState("the same twice", ExceptionsTest::births, x -> x.same(2, 3));
        Untouched.byState("the same twice, the other way round", ExceptionsTest::births, x -> x.same(3, 2));
        Untouched.byState("twins as the same", ExceptionsTest::births, x -> x.same(0, 1));
        Untouched.byState("twins as the same, the other way round", ExceptionsTest::births, x -> x.same(1, 0));
    }

    /** Four births, the books by turns; two are twins, two are the same. */
    private static Parishbook births() {
        Parishbook book = Registers.of(0, 0, 0, 0);
        book.twins(0, 1);
        book.same(2, 3);
        return book;
    }

    private static void demandsInOrder() {
        Untouched.byIndex("a demand of none with itself, by too much", Registers::full, x -> x.demand(10, 10, 40001));
        Untouched.byIndex("a seventh demand with none, by too much", Registers::full, x -> x.demand(0, 10, 40001));
        Untouched.byArgument("a seventh demand of one entry", Registers::full, x -> x.demand(1, 1, 0));
        Untouched.byArgument("a seventh demand by too much", Registers::full, x -> x.demand(0, 1, 40001));
        Untouched.byArgument("a seventh demand by too little", Registers::full, x -> x.demand(0, 1, -40001));
        Untouched.byState("a seventh demand", Registers::full, x -> x.demand(0, 1, 40000));
        Untouched.byIndex("undemand the seventh", Registers::full, x -> x.undemand(6));
        Untouched.byArgument("a demand of one entry", Registers::small, x -> x.demand(1, 1, 0));
        Untouched.byArgument("a demand by too much", Registers::small, x -> x.demand(0, 1, 40001));
    }

    private static void sayingsInOrder() {
        Untouched.byIndex("join of none with itself for no reason", Registers::full, x -> x.join(24, 24, 10));
        Untouched.byIndex("a thirteenth join with none", Registers::full, x -> x.join(0, 24, 10));
        Untouched.byArgument("a thirteenth join of one mention", Registers::full, x -> x.join(5, 5, 0));
        Untouched.byArgument("a thirteenth join for no reason", Registers::full, x -> x.join(5, 8, 10));
        Untouched.byState("a thirteenth join", Registers::full, x -> x.join(14, 23, 0));
        Untouched.byState("a thirteenth join that is one", Registers::full, x -> x.join(18, 0, 0));
        Untouched.byState("a thirteenth join that would be refused", Registers::full, x -> x.join(3, 0, 0));
        Untouched.byArgument("join of one that is joined, for no reason", Registers::small, x -> x.join(3, 0, 10));
        Untouched.byArgument("join of one that would be refused, for no reason", Registers::small,
                x -> x.join(1, 2, -1));
        Untouched.byState("join twice", Registers::small, x -> x.join(0, 3, 1));
        Untouched.byState("join twice, the other way round, for another reason", Registers::small,
                x -> x.join(9, 0, 5));
        Untouched.byIndex("part of none with itself", Registers::full, x -> x.part(24, 24));
        Untouched.byArgument("a thirteenth part of one mention", Registers::full, x -> x.part(5, 5));
        Untouched.byState("a thirteenth part", Registers::full, x -> x.part(14, 23));
        Untouched.byState("a thirteenth part that is one", Registers::full, x -> x.part(3, 0));
        Untouched.byState("a thirteenth part that would be refused", Registers::full, x -> x.part(18, 0));
        Untouched.byState("part twice", Registers::small, x -> x.part(1, 4));
        Untouched.byState("part twice, the other way round", Registers::small, x -> x.part(4, 1));
        Untouched.byIndex("unsay the thirteenth", Registers::full, x -> x.unsay(12));
        Untouched.byIndex("nick of none with itself", Registers::full, x -> x.nick(24, 24));
        Untouched.byState("a seventh nick", Registers::full, x -> x.nick(1, 2));
        Untouched.byState("a seventh nick that is one", Registers::full, x -> x.nick(1, 0));
        Untouched.byState("a seventh nick of one mention", Registers::full, x -> x.nick(3, 3));
        Untouched.byState("a seventh nick with a mark", Registers::full, x -> x.nick(0, 7));
        Untouched.byArgument("a thirteenth saying by a match of one sort", Registers::full, x -> x.match(0, 1, 0, 1, 1));
    }

    private static void questionsInOrder() {
        for (int entry : new int[] {0, 6, 9}) {
            Untouched.byArgument("household of a kind that is no wedding", Registers::full, x -> x.household(entry, 1599));
        }
        Untouched.byArgument("household in 1801", Registers::full, x -> x.household(8, 1801));
        Untouched.byIndex("household of entry 10", Registers::full, x -> x.household(10, 1801));
        Untouched.byIndex("alive of mention 24", Registers::full, x -> x.alive(24, LAST + 1));
        Untouched.byArgument("alive on 73414", Registers::full, x -> x.alive(23, LAST + 1));
        Untouched.byIndex("forebear of mention 24", Registers::full, x -> x.forebear(24, 4096));
        Untouched.byArgument("forebear 4096", Registers::full, x -> x.forebear(23, 4096));
        Untouched.byIndex("ofEntry of 10", Registers::full, x -> x.ofEntry(10, -1));
        Untouched.byIndex("ofMention of 24", Registers::full, x -> x.ofMention(24, -1));
        Untouched.byArgument("household that is not possible, in 1599", Registers::impossible, x -> x.household(2, 1599));
        Untouched.byArgument("alive that is not possible, on -1", Registers::impossible, x -> x.alive(0, -1));
    }

    /** What a new pen, a sign, a style, a feast must be, and that PEN and SLIP stay as they were. */
    private static void wrongArguments() {
        Untouched.byArgument("letter 27", Registers::small, x -> x.pen(27, 0, 0, 0, 0, 0));
        Untouched.byArgument("a letter behind none", Registers::small, x -> x.pen(0, 1, 0, 0, 0, 0));
        Untouched.byArgument("a last letter of -1", Registers::small, x -> x.pen(1, 2, 3, 4, 5, -1));
        Untouched.byArgument("a last letter behind none", Registers::small, x -> x.pen(1, 2, 3, 4, 0, 5));
        Untouched.byArgument("sign -1", Registers::small, x -> x.type(-1));
        Untouched.byArgument("day of style 3", Registers::small, x -> x.day(3, 0, 0, 0));
        Untouched.byArgument("date of style 3 of no day", Registers::small, x -> x.date(3, -1));
        Untouched.byArgument("feast of style 2, of none, in 1599", Registers::small, x -> x.feast(2, 7, 1599));
        Untouched.byArgument("match of kind 4", Registers::small, x -> x.match(4, 0, 1, 0, 1));
        Untouched.byArgument("match of role 3", Registers::small, x -> x.match(0, 3, 1, 0, 1));
        Untouched.byArgument("match by 0", Registers::small, x -> x.match(0, 0, 1, 0, 0));
    }

    /** What nobody can undo, and that it is the same when all STEPS were undone. */
    private static void noUndo() {
        Untouched.byState("undo of the empty one", Registers::empty, x -> x.undo());
        Untouched.byState("undo with none left", ExceptionsTest::undone, x -> x.undo());
    }

    private static Parishbook undone() {
        Parishbook book = Registers.small();
        for (int i = 0; i < 8; i++) {
            book.undo();
        }
        return book;
    }
}
