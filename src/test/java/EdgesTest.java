/** Each argument of each call: its first and its last value are taken, those beside them are not. */
public final class EdgesTest {
    private static final int LAST = 73413;
    private static final String ARGUMENT = "throws.IllegalArgumentException";
    private static final String INDEX = "throws.IndexOutOfBoundsException";

    interface Taking {
        Object with(int value);
    }

    private EdgesTest() {
    }

    public static void main(String[] args) {
        days();
        names();
        entries();
        pairs();
        sayings();
        matches();
        whoIsWho();
        kin();
        lives();
        whatThereIs();
        freeArguments();
        Check.end();
    }

    private static void edges(String what, int first, int last, String thrown, Taking call) {
        for (int value : new int[] {first, last}) {
            Check.due(what + " " + value + " throws", false,
                    () -> Check.told(() -> call.with(value)).startsWith("throws."));
        }
        for (int value : new int[] {first - 1, last + 1, Integer.MIN_VALUE, Integer.MAX_VALUE}) {
            Check.due(what + " " + value, thrown, () -> call.with(value));
        }
    }

    private static void argument(String what, int first, int last, Taking call) {
        edges(what, first, last, ARGUMENT, call);
    }

    /** A number of an ENTRY, a MENTION, a SAYING or a DEMAND, of which there are so many. */
    private static void number(String what, int count, Taking call) {
        edges(what, 0, count - 1, INDEX, call);
    }

    private static void days() {
        Parishbook book = new Parishbook();
        argument("style of day", 0, 2, v -> book.day(v, 1, 1, 1700));
        argument("style of date", 0, 2, v -> book.date(v, 0));
        argument("day of date", 0, LAST, v -> book.date(0, v));
        argument("day of date, old", 0, LAST, v -> book.date(1, v));
        argument("day of date, lady", 0, LAST, v -> book.date(2, v));
        argument("style of feast", 0, 1, v -> book.feast(v, 0, 1700));
        argument("which of feast", 0, 6, v -> book.feast(0, v, 1700));
        argument("year of feast", 1600, 1800, v -> book.feast(0, 0, v));
        argument("year of feast, old", 1600, 1800, v -> book.feast(1, 6, v));
        argument("sign", 0, 13, v -> book.type(v));
    }

    private static void names() {
        Parishbook book = new Parishbook();
        argument("letter a", 0, 26, v -> book.pen(v, 0, 0, 0, 0, 0));
        argument("letter b", 0, 26, v -> book.pen(1, v, 0, 0, 0, 0));
        argument("letter c", 0, 26, v -> book.pen(1, 1, v, 0, 0, 0));
        argument("letter d", 0, 26, v -> book.pen(1, 1, 1, v, 0, 0));
        argument("letter e", 0, 26, v -> book.pen(1, 1, 1, 1, v, 0));
        argument("letter f", 0, 26, v -> book.pen(1, 1, 1, 1, 1, v));
    }

    private static void entries() {
        argument("kind", 0, 3, v -> Registers.small().enter(v, 0, 0, 0));
        argument("from", 0, LAST, v -> Registers.small().enter(0, v, LAST, 0));
        argument("to", 0, LAST, v -> Registers.small().enter(0, 0, v, 0));
        argument("to from 77 on", 77, LAST, v -> Registers.small().enter(0, 77, v, 0));
        argument("from to 77", 0, 77, v -> Registers.small().enter(0, v, 77, 0));
        argument("book", 0, 1, v -> Registers.small().enter(0, 0, 0, v));
        Parishbook book = Registers.of();
        for (int kind = 0; kind < 4; kind++) {
            int entry = book.enter(kind, 0, 0, 0);
            argument("role of kind " + kind, 0, kind == 3 ? 1 : 2, v -> book.mention(entry, v));
        }
        number("entry of mention", 5, v -> five().mention(v, 1));
        number("entry of put", 4, v -> Registers.small().put(v, 5, 6));
        argument("from of put", 0, LAST, v -> Registers.small().put(1, v, LAST));
        argument("to of put", 0, LAST, v -> Registers.small().put(1, 0, v));
        argument("to of put from 77 on", 77, LAST, v -> Registers.small().put(1, 77, v));
        argument("from of put to 77", 0, 77, v -> Registers.small().put(1, v, 77));
        argument("years of a wedding", -1, 99, v -> Registers.small().age(2, v));
        argument("years of a death", -1, 99, v -> Registers.small().age(3, v));
        number("entry of age", 5, v -> five().age(v, 5));
        number("entry of close", 4, v -> Registers.small().close(v));
        ages();
    }

    /** Five deaths without mentions, in both books. */
    private static Parishbook five() {
        Parishbook book = new Parishbook();
        for (int e = 0; e < 5; e++) {
            book.enter(3, 0, LAST, e / 2 % 2);
        }
        return book;
    }

    /** Only of a wedding or a death, whatever the years. */
    private static void ages() {
        for (int years : new int[] {-1, 0, 99}) {
            Check.argument("age " + years + " of a birth", () -> Registers.small().age(0, years));
            Check.argument("age " + years + " of a baptism", () -> Registers.small().age(1, years));
            Parishbook book = Registers.small();
            Check.due("age " + years + " of a wedding", 30, () -> book.age(2, years));
            Check.due("age of it then", years, () -> book.ofEntry(2, 4));
            Check.due("age " + years + " of a death", -1, () -> book.age(3, years));
            Check.due("age of that then", years, () -> book.ofEntry(3, 4));
        }
    }

    private static void pairs() {
        Check.due("twins of the first and the last", 1, () -> four(0).twins(0, 3));
        Check.due("twins of the last and the first", 1, () -> four(0).twins(3, 0));
        for (int kind = 0; kind < 4; kind++) {
            int own = kind;
            Check.due("same of the first and the last, kind " + kind, 1, () -> four(own).same(0, 3));
            Check.due("same of the last and the first, kind " + kind, 1, () -> four(own).same(3, 0));
        }
        for (int none : new int[] {-1, 4, Integer.MIN_VALUE, Integer.MAX_VALUE}) {
            Check.index("twins of " + none, () -> four(0).twins(none, 0));
            Check.index("twins with " + none, () -> four(0).twins(0, none));
            Check.index("same of " + none, () -> four(0).same(none, 0));
            Check.index("same with " + none, () -> four(0).same(0, none));
            Check.index("demand of " + none, () -> four(0).demand(none, 0, 0));
            Check.index("demand with " + none, () -> four(0).demand(0, none, 0));
        }
        Check.due("demand of the first and the last", 1, () -> four(0).demand(0, 3, 0));
        Check.due("demand of the last and the first", 1, () -> four(0).demand(3, 0, 0));
        argument("least of a demand", -40000, 40000, v -> four(0).demand(0, 1, v));
        for (int least : new int[] {-40000, 40000}) {
            Parishbook book = four(0);
            book.demand(0, 1, least);
            Check.due("apart by a demand of " + least, least, () -> book.apart(0, 1));
        }
        number("nth of undemand", 3, v -> {
            Parishbook book = four(0);
            book.demand(0, 1, 1);
            book.demand(1, 2, 1);
            book.demand(2, 3, 1);
            return book.undemand(v);
        });
    }

    /** Four entries of one kind, in the books 0, 0, 1, 1. */
    private static Parishbook four(int kind) {
        Parishbook book = new Parishbook();
        for (int e = 0; e < 4; e++) {
            book.enter(kind, 0, LAST, e / 2);
        }
        return book;
    }

    private static void sayings() {
        for (int none : new int[] {-1, 11, Integer.MIN_VALUE, Integer.MAX_VALUE}) {
            Check.index("join of " + none, () -> Registers.small().join(none, 0, 0));
            Check.index("join with " + none, () -> Registers.small().join(0, none, 0));
            Check.index("part of " + none, () -> Registers.small().part(none, 0));
            Check.index("part with " + none, () -> Registers.small().part(0, none));
            Check.index("nick of " + none, () -> Registers.small().nick(none, 6));
            Check.index("nick with " + none, () -> Registers.small().nick(6, none));
        }
        Check.due("join of the first and the last", 0, () -> Registers.of(1, 3).join(0, 4, 0));
        Check.due("join of the last and the first", 0, () -> Registers.of(1, 3).join(4, 0, 0));
        Check.due("part of the first and the last", 1, () -> Registers.of(1, 3).part(0, 4));
        Check.due("part of the last and the first", 1, () -> Registers.of(1, 3).part(4, 0));
        Check.due("nick of the first and the last", 1, () -> firstAndLast().nick(0, 1));
        Check.due("nick of the last and the first", 1, () -> firstAndLast().nick(1, 0));
        argument("reason", 0, 9, v -> Registers.small().join(4, 8, v));
        for (int reason : new int[] {0, 9}) {
            Parishbook book = Registers.of(1, 3);
            book.join(0, 4, reason);
            Check.due("reason " + reason, "0=4:" + reason, () -> book.saying(0));
        }
        number("nth of unsay", 3, v -> Registers.small().unsay(v));
        number("nth of saying", 3, v -> Registers.small().saying(v));
        number("nth of unsay of the full one", 12, v -> Registers.full().unsay(v));
        number("nth of saying of the full one", 12, v -> Registers.full().saying(v));
    }

    private static Parishbook firstAndLast() {
        Parishbook book = new Parishbook();
        book.enter(0, 0, LAST, 0);
        Pen.write(book, "ann");
        book.mention(0, 0);
        Pen.write(book, "bob");
        book.mention(0, 1);
        return book;
    }

    private static void matches() {
        argument("kind of match", 0, 3, v -> Registers.small().match(v, 0, 2, 1, 1));
        argument("role of match", 0, 2, v -> Registers.small().match(0, v, 2, 1, 1));
        argument("other kind of match", 0, 3, v -> Registers.small().match(1, 1, v, 0, 1));
        argument("other role of match", 0, 2, v -> Registers.small().match(1, 1, 0, v, 1));
        argument("least of match", 1, 3, v -> Registers.small().match(0, 0, 1, 0, v));
        argument("role of match of deaths", 0, 2, v -> Registers.small().match(3, v, 2, 1, 1));
        for (int kind = 0; kind < 4; kind++) {
            for (int role = 0; role < 3; role++) {
                int k = kind;
                int r = role;
                Check.argument("match of one sort " + k + " " + r, () -> Registers.small().match(k, r, k, r, 1));
                Check.due("match of two roles of a kind", 0,
                        () -> Registers.small().match(k, r, k, (r + 1) % 3, 1));
                Check.due("match of a role of two kinds", 0,
                        () -> new Parishbook().match(k, r, (k + 1) % 4, r, 1));
            }
        }
    }

    private static void whoIsWho() {
        Parishbook book = Registers.small();
        number("mention of person", 11, v -> book.person(v));
        number("mention of likeness", 11, v -> book.likeness(v, 0));
        number("other of likeness", 11, v -> book.likeness(0, v));
        number("mention of mentions", 11, v -> book.mentions(v));
        number("entry of bound", 4, v -> book.bound(v, false));
        number("entry of bound, latest", 4, v -> book.bound(v, true));
        number("first of apart", 4, v -> book.apart(v, 0));
        number("second of apart", 4, v -> book.apart(0, v));
        Parishbook full = Registers.full();
        number("mention of person, full", 24, v -> full.person(v));
        number("mention of mentions, full", 24, v -> full.mentions(v));
        number("entry of bound, full", 10, v -> full.bound(v, true));
        number("first of apart, full", 10, v -> full.apart(v, 0));
        number("second of apart, full", 10, v -> full.apart(0, v));
        number("mention of likeness, full", 24, v -> full.likeness(v, 23));
        number("other of likeness, full", 24, v -> full.likeness(23, v));
    }

    private static void kin() {
        Parishbook book = Registers.small();
        number("mention of degree", 11, v -> book.degree(v, 0, true));
        number("other of degree", 11, v -> book.degree(0, v, false));
        number("mention of bars", 11, v -> book.bars(v, 0));
        number("other of bars", 11, v -> book.bars(0, v));
        number("mention of leave", 11, v -> book.leave(v, 0));
        number("other of leave", 11, v -> book.leave(0, v));
        number("mention of common", 11, v -> book.common(v, 0));
        number("other of common", 11, v -> book.common(0, v));
        number("mention of line", 11, v -> book.line(v, true));
        number("mention of line by mothers", 11, v -> book.line(v, false));
        number("mention of forebear", 11, v -> book.forebear(v, 1));
        argument("number of forebear", 1, 4095, v -> book.forebear(0, v));
        number("mention of number", 11, v -> book.number(v, 0));
        number("other of number", 11, v -> book.number(0, v));
        number("mention of letters", 11, v -> book.letters(v, 0));
        number("other of letters", 11, v -> book.letters(0, v));
        number("mention of tree", 11, v -> book.tree(v));
        number("mention of loops", 11, v -> book.loops(v));
    }

    private static void lives() {
        for (Parishbook book : new Parishbook[] {Registers.small(), Registers.impossible()}) {
            number("mention of alive", 11, v -> book.alive(v, 0));
            argument("day of alive", 0, LAST, v -> book.alive(0, v));
            argument("year of household", 1600, 1800, v -> book.household(2, v));
            argument("book of gap", 0, 1, v -> book.gap(v, 1));
            argument("least of gap", 1, 999, v -> book.gap(0, v));
            for (int none : new int[] {-1, 4, Integer.MIN_VALUE, Integer.MAX_VALUE}) {
                Check.index("household of " + none, () -> book.household(none, 1700));
            }
            for (int entry : new int[] {0, 1, 3}) {
                Check.argument("household of " + entry, () -> book.household(entry, 1700));
            }
        }
        Parishbook weddings = new Parishbook();
        for (int i = 0; i < 10; i++) {
            weddings.enter(2, 0, LAST, 0);
        }
        number("entry of household", 10, v -> weddings.household(v, 1700));
    }

    private static void whatThereIs() {
        Parishbook book = Registers.small();
        number("entry of ofEntry", 4, v -> book.ofEntry(v, 0));
        argument("what of ofEntry", 0, 9, v -> book.ofEntry(0, v));
        number("mention of ofMention", 11, v -> book.ofMention(v, 0));
        argument("what of ofMention", 0, 8, v -> book.ofMention(0, v));
        argument("what of house", 0, 11, v -> book.house(v));
    }

    /** The day, the month and the year of a date may be any numbers: there is no such date then. */
    private static void freeArguments() {
        Parishbook book = new Parishbook();
        for (int style = 0; style <= 2; style++) {
            int own = style;
            for (int d : new int[] {Integer.MIN_VALUE, -1, 0, 32, 366, Integer.MAX_VALUE}) {
                Check.due("day " + d, -1, () -> book.day(own, d, 1, 1700));
            }
            for (int m : new int[] {Integer.MIN_VALUE, -1, 0, 13, 366, Integer.MAX_VALUE}) {
                Check.due("month " + m, -1, () -> book.day(own, 1, m, 1700));
            }
            for (int y : new int[] {Integer.MIN_VALUE, -1, 0, 1598, 1801, Integer.MAX_VALUE}) {
                Check.due("year " + y, -1, () -> book.day(own, 1, 1, y));
            }
        }
    }
}
