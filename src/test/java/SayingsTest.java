/** Promises 20 to 22, 24, 27, 29 and 30: join, part, unsay, match, person, saying, mentions. */
public final class SayingsTest {
    private static final int LAST = 73413;

    private SayingsTest() {
    }

    public static void main(String[] args) {
        joins();
        parts();
        contradictions();
        rounds();
        unsaid();
        matches();
        matchesInOrder();
        firstSortFirst();
        matchesToTheEnd();
        matchesOfOneSort();
        unsaidInOrder();
        Check.end();
    }

    private static void joins() {
        Parishbook book = Registers.of(0, 2, 0, 2);
        Check.index("join of 12", () -> book.join(12, 0, 0));
        Check.index("join with -1", () -> book.join(0, -1, 77));
        Check.argument("join of one", () -> book.join(1, 1, 0));
        Check.argument("reason -1", () -> book.join(0, 3, -1));
        Check.argument("reason 10", () -> book.join(0, 3, 10));
        Check.due("join", 3, () -> book.join(7, 3, 4));
        Check.due("join", 0, () -> book.join(7, 0, 9));
        Check.state("join again", () -> book.join(3, 7, 4));
        Check.due("join within one", 0, () -> book.join(0, 3, 0));
        Check.due("saying 0", "3=7:4", () -> book.saying(0));
        Check.due("saying 1", "0=7:9", () -> book.saying(1));
        Check.due("saying 2", "0=3:0", () -> book.saying(2));
        Check.index("saying 3", () -> book.saying(3));
        Check.index("saying -1", () -> book.saying(-1));
        Check.due("person of 7", 0, () -> book.person(7));
        Check.due("person of 6", 6, () -> book.person(6));
        Check.index("person of 12", () -> book.person(12));
        Check.index("person of -1", () -> book.person(-1));
        Check.due("mentions", "0 3 7", () -> book.mentions(7));
        Check.due("mentions of one alone", "11", () -> book.mentions(11));
        Check.index("mentions of 12", () -> book.mentions(12));
        Check.index("mentions of -1", () -> book.mentions(-1));
        Check.due("persons", 10, () -> book.house(2));
        Check.due("mentions of a person", 3, () -> book.ofMention(3, 7));
    }

    private static void parts() {
        Parishbook book = Registers.of(0, 2, 0, 2);
        Check.index("part of 12", () -> book.part(12, 0));
        Check.index("part with -1", () -> book.part(0, -1));
        Check.argument("part of one", () -> book.part(1, 1));
        Check.due("part", 1, () -> book.part(3, 0));
        Check.due("saying", "0#3", () -> book.saying(0));
        Check.state("part again", () -> book.part(0, 3));
        Check.due("join of parted ones", -9, () -> book.join(0, 3, 0));
        Check.due("join", 0, () -> book.join(0, 9, 0));
        Check.due("join that brings parted ones together", -9, () -> book.join(3, 9, 0));
        Check.due("part of joined ones", -9, () -> book.part(9, 0));
        Check.due("refused", 3, () -> book.house(7));
        Check.due("sayings", 2, () -> book.house(3));
        Check.due("persons", 11, () -> book.house(2));
        for (int i = 3; i <= 12; i++) {
            int count = i;
            Check.due("part " + i, i, () -> book.part(1, count - 1));
        }
        Check.state("a thirteenth part", () -> book.part(2, 4));
        Check.state("a thirteenth join", () -> book.join(2, 4, 0));
        Check.argument("a thirteenth wrong join", () -> book.join(2, 2, 0));
    }

    private static void joined(int want, Parishbook book, int one, int other) {
        Check.due("join " + one + " " + other, want, () -> book.join(one, other, 0));
    }

    private static void contradictions() {
        Parishbook book = Registers.of(0, 0, 1, 1, 3, 3, 2, 2);
        joined(-9, book, 1, 5);
        joined(-9, book, 1, 8);
        joined(-9, book, 16, 5);
        joined(-9, book, 7, 17);
        joined(-9, book, 0, 1);
        joined(-9, book, 12, 13);
        joined(-9, book, 0, 3);
        joined(-9, book, 6, 9);
        joined(-9, book, 12, 14);
        joined(16, book, 16, 19);
        joined(-9, book, 19, 5);
        joined(-9, book, 2, 16);
        joined(18, book, 18, 21);
        joined(-9, book, 21, 20);
        joined(-9, book, 20, 18);
        Check.due("same births", 1, () -> book.same(0, 1));
        joined(0, book, 0, 3);
        joined(-9, book, 6, 9);
        joined(-9, book, 12, 14);
        Check.due("same baptisms", 2, () -> book.same(2, 3));
        joined(0, book, 6, 3);
        joined(0, book, 9, 6);
        Check.due("same deaths", 3, () -> book.same(5, 4));
        joined(12, book, 14, 12);
        joined(0, book, 14, 0);
        Check.due("of a person", "0 3 6 9 12 14", () -> book.mentions(9));
        joined(-9, book, 4, 14);
        joined(4, book, 4, 16);
    }

    private static void rounds() {
        Parishbook book = Registers.of(0, 0, 0, 0);
        joined(1, book, 1, 3);
        joined(-9, book, 4, 0);
        joined(4, book, 4, 6);
        joined(-9, book, 7, 0);
        joined(-9, book, 8, 0);
        joined(7, book, 7, 9);
        joined(-9, book, 10, 0);
        joined(-9, book, 11, 3);
        Check.due("sayings", 3, () -> book.house(3));
        secondBirth();
    }

    /** The father of the second of two births that are the same leads round, though it is no FATHER. */
    private static void secondBirth() {
        Parishbook book = Registers.of(0, 0, 0);
        book.same(0, 1);
        joined(0, book, 0, 3);
        joined(4, book, 4, 6);
        Check.due("FATHER by the first birth", 1, () -> book.ofMention(0, 4));
        joined(-9, book, 7, 0);
        joined(-9, book, 8, 0);
        Check.due("sayings", 2, () -> book.house(3));
    }

    private static void unsaid() {
        Parishbook book = Registers.of(0, 2, 0, 2);
        book.join(0, 3, 1);
        book.join(3, 7, 2);
        book.part(7, 8);
        Check.index("unsay 3", () -> book.unsay(3));
        Check.index("unsay -1", () -> book.unsay(-1));
        Check.due("unsay 0", 11, () -> book.unsay(0));
        Check.due("saying 0", "3=7:2", () -> book.saying(0));
        Check.due("saying 1", "7#8", () -> book.saying(1));
        Check.due("unsay 1", 11, () -> book.unsay(1));
        Check.due("unsay 0", 12, () -> book.unsay(0));
        Check.index("unsay none", () -> book.unsay(0));
        joined(0, book, 0, 3);
    }

    /** A mention with a name in each of some entries: kind, role, name. */
    private static Parishbook named(Object... rows) {
        Parishbook book = new Parishbook();
        for (int i = 0; i + 2 < rows.length; i += 3) {
            book.enter((Integer) rows[i], 0, LAST, 0);
            Pen.write(book, (String) rows[i + 2]);
            book.mention(i / 3, (Integer) rows[i + 1]);
        }
        return book;
    }

    private static void sayings(Parishbook book, String... want) {
        Check.due("sayings", want.length, () -> book.house(3));
        for (int i = 0; i < want.length; i++) {
            int nth = i;
            Check.due("saying " + i, want[i], () -> book.saying(nth));
        }
    }

    private static void matches() {
        Parishbook book = new Parishbook();
        Check.argument("kind -1", () -> book.match(-1, 0, 1, 0, 1));
        Check.argument("kind 4", () -> book.match(4, 0, 1, 0, 1));
        Check.argument("role -1", () -> book.match(0, -1, 1, 0, 1));
        Check.argument("role 3", () -> book.match(0, 3, 1, 0, 1));
        Check.argument("other kind 4", () -> book.match(0, 0, 4, 0, 1));
        Check.argument("other kind -1", () -> book.match(0, 0, -1, 0, 1));
        Check.argument("other role 3", () -> book.match(0, 0, 1, 3, 1));
        Check.argument("other role -1", () -> book.match(0, 0, 1, -1, 1));
        Check.argument("one sort", () -> book.match(2, 1, 2, 1, 1));
        Check.argument("least 0", () -> book.match(0, 0, 1, 0, 0));
        Check.argument("least 4", () -> book.match(0, 0, 1, 0, 4));
        Check.due("no step", 0, () -> book.house(6));
        Check.due("match of none", 0, () -> book.match(0, 0, 3, 2, 1));
        Check.due("but a step", 1, () -> book.house(6));
    }

    private static void matchesInOrder() {
        Parishbook book = named(0, 0, "nora", 0, 0, "mary", 0, 0, "polly", 1, 0, "mary", 1, 0, "molly", 1, 0, "mary",
                1, 0, "");
        Check.due("match of the same names", 1, () -> book.match(0, 0, 1, 0, 3));
        sayings(book, "1=3:0");
        book.undo();
        Check.due("match of the same keys", 2, () -> book.match(0, 0, 1, 0, 2));
        sayings(book, "1=3:0", "0=5:0");
        book.undo();
        book.nick(2, 4);
        Check.due("match of nicks", 3, () -> book.match(0, 0, 1, 0, 1));
        sayings(book, "1=3:0", "0=5:0", "2=4:0");
        Check.due("match again", 0, () -> book.match(0, 0, 1, 0, 1));
        book.undo();
        book.undo();
        Check.due("match from the other side", 3, () -> book.match(1, 0, 0, 0, 1));
        sayings(book, "1=3:0", "0=5:0", "2=4:0");
        book.undo();
        book.part(1, 3);
        Check.due("match with a part", 2, () -> book.match(0, 0, 1, 0, 2));
        sayings(book, "1#3", "1=5:0", "0=3:0");
    }

    /** The smallest mention of the first sort goes ahead, though another pair has a smaller one of the second sort. */
    private static void firstSortFirst() {
        Parishbook book = named(2, 1, "ann", 0, 0, "ann", 0, 0, "ann", 2, 1, "ann");
        book.part(0, 1);
        Check.due("match of children with brides", 2, () -> book.match(0, 0, 2, 1, 3));
        sayings(book, "0#1", "1=3:0", "0=2:0");
        book.undo();
        Check.due("match of brides with children", 2, () -> book.match(2, 1, 0, 0, 3));
        sayings(book, "0#1", "0=2:0", "1=3:0");
    }

    private static void matchesToTheEnd() {
        Parishbook book = named(0, 0, "mary", 2, 1, "mary", 2, 1, "mary", 0, 0, "mary", 2, 0, "mary", 2, 0, "mary");
        Check.due("one bride each", 2, () -> book.match(0, 0, 2, 1, 3));
        sayings(book, "0=1:0", "2=3:0");
        Check.due("of both sexes", 0, () -> book.match(0, 0, 2, 0, 3));
        book.undo();
        book.undo();
        for (int i = 0; i < 11; i++) {
            int from = new int[] {0, 0, 0, 0, 1, 1, 1, 2, 2, 3, 3}[i];
            int to = new int[] {2, 3, 4, 5, 3, 4, 5, 4, 5, 4, 5}[i];
            Check.due("part", i + 1, () -> book.part(from, to));
        }
        Check.due("only one more saying", 1, () -> book.match(0, 0, 2, 1, 3));
        Check.due("and none more", 0, () -> book.match(0, 0, 2, 1, 3));
        Check.due("sayings", 12, () -> book.house(3));
    }

    /** Who has a mention of the other sort already is left out, be it the first mention of all or the last. */
    private static void matchesOfOneSort() {
        Parishbook first = named(2, 0, "ann", 0, 0, "ann", 2, 0, "ann");
        first.join(0, 1, 0);
        Check.due("a child that is a groom", 0, () -> first.match(0, 0, 2, 0, 3));
        Check.due("a groom that is a child", 0, () -> first.match(2, 0, 0, 0, 3));
        first.unsay(0);
        Check.due("a child that is none", 1, () -> first.match(0, 0, 2, 0, 3));
        Check.due("with the first groom", "0=1:0", () -> first.saying(0));
        Parishbook last = named(0, 0, "ann", 2, 0, "ann", 2, 0, "ann");
        last.join(0, 2, 0);
        Check.due("a child that is the last groom", 0, () -> last.match(0, 0, 2, 0, 3));
        Check.due("the last groom that is a child", 0, () -> last.match(2, 0, 0, 0, 3));
        Parishbook both = named(0, 0, "ann", 1, 0, "ann", 3, 0, "ann");
        Check.due("a child and who is baptized", 1, () -> both.match(0, 0, 1, 0, 3));
        Check.due("the child and the dead", 1, () -> both.match(0, 0, 3, 0, 3));
        Check.due("who is baptized and the dead, one person by now", 0, () -> both.match(1, 0, 3, 0, 3));
        Check.due("all of one", "0 1 2", () -> both.mentions(2));
    }

    /** Sayings move up when one ahead of them goes: the first one, one in the middle, the last one. */
    private static void unsaidInOrder() {
        Parishbook book = Registers.of(0, 2, 0, 2);
        book.join(0, 3, 1);
        book.part(1, 4);
        book.join(6, 9, 2);
        book.part(2, 7);
        book.join(3, 7, 3);
        sayings(book, "0=3:1", "1#4", "6=9:2", "2#7", "3=7:3");
        Check.due("unsay one in the middle", 10, () -> book.unsay(2));
        sayings(book, "0=3:1", "1#4", "2#7", "3=7:3");
        Check.due("unsay the last one", 11, () -> book.unsay(3));
        sayings(book, "0=3:1", "1#4", "2#7");
        Check.due("unsay the first one", 12, () -> book.unsay(0));
        sayings(book, "1#4", "2#7");
        Check.index("unsay one that is no more", () -> book.unsay(2));
        Check.due("what was parted can be joined then", 12, () -> book.unsay(0));
        joined(1, book, 1, 9);
        sayings(book, "2#7", "1=9:0");
    }
}
