/** Promises 34 to 43 at their edges: the longest lines, the most children, degrees and ways just near enough. */
public final class KinEdgesTest {
    private static final int LAST = 73413;

    private KinEdgesTest() {
    }

    public static void main(String[] args) {
        alone();
        lines(true);
        lines(false);
        wayByBoth();
        tenChildren();
        wayDown();
        shortestWay();
        cousins();
        spouses();
        godparents();
        leaves();
        parents();
        sexes();
        goneAgain();
        Check.end();
    }

    /** Births with child, father, mother each, joined as it is told: the mentions 3e, 3e + 1, 3e + 2. */
    private static Parishbook births(int count, int[]... joins) {
        Parishbook book = new Parishbook();
        for (int e = 0; e < count; e++) {
            book.enter(0, e, LAST, e % 2);
            Registers.mentionAll(book, e);
        }
        for (int[] pair : joins) {
            book.join(pair[0], pair[1], 0);
        }
        return book;
    }

    private static void alone() {
        Parishbook book = Registers.of(2);
        int[] row = {0, 1, 2};
        for (int m : row) {
            Check.due("line", String.valueOf(m), () -> book.line(m, true));
            Check.due("line by mothers", String.valueOf(m), () -> book.line(m, false));
            Check.due("tree", String.valueOf(m), () -> book.tree(m));
            Check.due("loops", 0, () -> book.loops(m));
            Check.due("part", "1/2", () -> book.common(m, m));
            Check.due("degree", 0, () -> book.degree(m, m, true));
            Check.due("other degree", 0, () -> book.degree(m, m, false));
            Check.due("letters", "", () -> book.letters(m, m));
            Check.due("number", 1, () -> book.number(m, m));
            Check.due("forebear 1", m, () -> book.forebear(m, 1));
            Check.due("forebear 2", -1, () -> book.forebear(m, 2));
            Check.due("forebear 3", -1, () -> book.forebear(m, 3));
            Check.due("bars", "-", () -> book.bars(m, m));
            Check.due("leave", 2, () -> book.leave(m, m));
            int other = (m + 1) % 3;
            Check.due("no way", -1, () -> book.degree(m, other, true));
            Check.due("no other way", -1, () -> book.degree(m, other, false));
            Check.due("no part", "0", () -> book.common(m, other));
            Check.due("no letters", "-", () -> book.letters(m, other));
            Check.due("no number", -1, () -> book.number(m, other));
            Check.due("no bars", "-", () -> book.bars(m, other));
            Check.due("leave", 0, () -> book.leave(m, other));
        }
    }

    /** Ten births, each child's father (or mother) the next child: the longest line that there can be. */
    private static void lines(boolean isFather) {
        Parishbook book = new Parishbook();
        for (int e = 0; e < 10; e++) {
            book.enter(0, 10 - e, LAST, 0);
            book.mention(e, 0);
            book.mention(e, isFather ? 1 : 2);
            if (e > 0) {
                book.join(2 * e - 1, 2 * e, 0);
            }
        }
        StringBuilder line = new StringBuilder("0");
        int number = 1;
        for (int births = 1; births <= 10; births++) {
            int top = births * 2 - 1;
            int way = births;
            number = 2 * number + (isFather ? 0 : 1);
            line.append('<').append(top);
            int own = number;
            Check.due("number", own, () -> book.number(0, top));
            Check.due("forebear", top, () -> book.forebear(0, own));
            Check.due("no such forebear", -1, () -> book.forebear(0, isFather ? own + 1 : own - 1));
            Check.due("degree", way, () -> book.degree(0, top, true));
            Check.due("other degree", way, () -> book.degree(0, top, false));
            Check.due("letters", "a".repeat(way), () -> book.letters(top, 0));
            Check.due("no letters up", "-", () -> book.letters(0, top));
            Check.due("common", "1/" + (1 << way + 1), () -> book.common(0, top));
            Check.due("bars", "L", () -> book.bars(0, top));
        }
        Check.due("line", line, () -> book.line(0, isFather));
        Check.due("the other line", "0", () -> book.line(0, !isFather));
        Check.due("the greatest number", isFather ? 1024 : 2047, () -> book.number(0, 19));
        for (int none : new int[] {2048, 4094, 4095}) {
            Check.due("forebear " + none, -1, () -> book.forebear(0, none));
        }
        Check.argument("forebear 4096", () -> book.forebear(0, 4096));
        Check.argument("forebear 0", () -> book.forebear(0, 0));
        Check.due("loops", 0, () -> book.loops(0));
        Check.due("sound", true, () -> book.isSound());
    }

    /** 0 comes to 7 by its father's mother and by its mother's father: the smallest NUMBER, and two rows. */
    private static void wayByBoth() {
        Parishbook book = births(4, new int[] {1, 3}, new int[] {2, 6}, new int[] {4, 9}, new int[] {7, 9});
        Check.due("tree", "0(1(4(10,11),5),2(4(10,11),8))", () -> book.tree(0));
        Check.due("number", 4, () -> book.number(0, 4));
        Check.due("number of a forebear of that", 8, () -> book.number(0, 10));
        Check.due("forebear by the father", 4, () -> book.forebear(0, 4));
        Check.due("forebear by the mother", 4, () -> book.forebear(0, 6));
        Check.due("loops: 4, 10 and 11", 3, () -> book.loops(0));
        Check.due("loops of the father", 0, () -> book.loops(1));
        Check.due("part", "9/16", () -> book.common(0, 0));
        Check.due("part of father and mother", "1/8", () -> book.common(1, 2));
        Check.due("letters by the first child", "aa", () -> book.letters(4, 0));
        Check.due("letters", "aaa", () -> book.letters(10, 0));
    }

    /** The most children: a to j by FROM; of one FROM by the number of the birth. */
    private static void tenChildren() {
        Parishbook book = new Parishbook();
        for (int e = 0; e < 10; e++) {
            book.enter(0, e < 5 ? 100 : 90 - e, LAST, 0);
            book.mention(e, 0);
            book.mention(e, 1);
            if (e > 0) {
                book.join(1, 2 * e + 1, 0);
            }
        }
        String want = "fghijedcba";
        for (int e = 0; e < 10; e++) {
            int child = 2 * e;
            String letter = want.substring(e, e + 1);
            Check.due("letter of " + child, letter, () -> book.letters(1, child));
        }
        Check.due("children", 10, () -> book.ofMention(19, 6));
        Check.due("children of a child", 0, () -> book.ofMention(0, 6));
        Check.due("a brother", "-", () -> book.letters(0, 2));
    }

    /** Each letter is of the one above: 1 has 0, 3, 6; 3 has 9 and 12; 12 has 15 and 18. */
    private static void wayDown() {
        Parishbook book = births(7, new int[] {1, 4}, new int[] {1, 7}, new int[] {3, 10}, new int[] {3, 13},
                new int[] {12, 16}, new int[] {12, 19});
        String[][] want = {{"1", "0", "a"}, {"1", "3", "b"}, {"1", "6", "c"}, {"1", "9", "ba"}, {"1", "12", "bb"},
            {"1", "15", "bba"}, {"1", "18", "bbb"}, {"3", "18", "bb"}, {"12", "18", "b"}, {"0", "18", "-"},
            {"6", "9", "-"}, {"18", "1", "-"}};
        for (String[] row : want) {
            int from = Integer.parseInt(row[0]);
            int to = Integer.parseInt(row[1]);
            Check.due("letters " + from + " " + to, row[2], () -> book.letters(from, to));
        }
        book.put(1, 0, LAST);
        book.put(0, 7, LAST);
        Check.due("3 is the first one now", "abb", () -> book.letters(1, 18));
        Check.due("0 is the last one now", "c", () -> book.letters(1, 0));
    }

    /** The fewest letters go ahead of the dictionary: "c" ahead of "aa". */
    private static void shortestWay() {
        Parishbook book = new Parishbook();
        int[][] births = {{1}, {1}, {1, 2}};
        for (int e = 0; e < births.length; e++) {
            book.enter(0, e, LAST, 0);
            book.mention(e, 0);
            for (int role : births[e]) {
                book.mention(e, role);
            }
        }
        book.join(1, 3, 0);
        book.join(0, 6, 0);
        book.join(1, 5, 0);
        Check.due("father of 4 is 1, its mother 0 is his child too", "4(1,0(1,.))", () -> book.tree(4));
        Check.due("letters", "c", () -> book.letters(1, 4));
        Check.due("the smallest number", 2, () -> book.number(4, 1));
        Check.due("degree", 1, () -> book.degree(4, 1, true));
        Check.due("loops", 1, () -> book.loops(4));
        Check.due("part", "5/8", () -> book.common(4, 4));
        Check.due("part of both", "3/8", () -> book.common(1, 4));
    }

    private static void degree(int roman, int other, Parishbook book, int one, int two, String bars, int leave) {
        String pair = one + " " + two;
        Check.due("Roman degree " + pair, roman, () -> book.degree(one, two, true));
        Check.due("Roman degree back " + pair, roman, () -> book.degree(two, one, true));
        Check.due("degree " + pair, other, () -> book.degree(one, two, false));
        Check.due("degree back " + pair, other, () -> book.degree(two, one, false));
        Check.due("bars " + pair, bars, () -> book.bars(one, two));
        Check.due("bars back " + pair, bars, () -> book.bars(two, one));
        Check.due("leave " + pair, leave, () -> book.leave(one, two));
        Check.due("leave back " + pair, leave, () -> book.leave(two, one));
    }

    /** From 1 down by two lines, to 8 by five births, to 18 by five: the degrees 1 to 5. */
    private static void cousins() {
        Parishbook book = new Parishbook();
        int[] fathers = {-1, 0, 2, 4, 6, 1, 10, 12, 14, 16};
        for (int e = 0; e < 10; e++) {
            book.enter(0, 0, LAST, 0);
            book.mention(e, 0);
            book.mention(e, e < 5 ? 1 : e == 5 ? 1 : 2);
            if (fathers[e] >= 0) {
                book.join(2 * e + 1, fathers[e], 0);
            }
        }
        degree(2, 1, book, 0, 10, "K1", 2);
        degree(4, 2, book, 2, 12, "K2", 2);
        degree(6, 3, book, 4, 14, "K3", 1);
        degree(8, 4, book, 6, 16, "K4", 1);
        degree(10, 5, book, 8, 18, "-", 0);
        degree(3, 2, book, 0, 12, "K2", 2);
        degree(4, 3, book, 0, 14, "K3", 1);
        degree(5, 4, book, 0, 16, "K4", 1);
        degree(6, 5, book, 0, 18, "-", 0);
        degree(9, 5, book, 6, 18, "-", 0);
        degree(5, 5, book, 1, 18, "L", 2);
        degree(5, 5, book, 1, 8, "L", 2);
    }

    /** 4 and 6 are spouses of 0 and 3; these are brothers; 9 is a son of 3, 12 one of 9. */
    private static void spouses() {
        Parishbook book = births(4, new int[] {1, 4}, new int[] {7, 3}, new int[] {10, 6});
        int wedding = book.enter(2, 0, LAST, 0);
        int groom = book.mention(wedding, 0);
        int bride = book.mention(wedding, 1);
        book.join(groom, 0, 0);
        degree(-1, -1, book, bride, 3, "A1", 2);
        degree(-1, -1, book, bride, 6, "A2", 1);
        degree(-1, -1, book, bride, 9, "-", 0);
        degree(-1, -1, book, bride, 1, "A1", 2);
        degree(-1, -1, book, bride, 0, "-", 0);
        int second = book.enter(2, 0, LAST, 0);
        int other = book.mention(second, 0);
        int own = book.mention(second, 1);
        book.join(other, 3, 0);
        Check.due("two brothers' wives are of one sex", 2, () -> book.leave(bride, own));
        Check.due("spouses' spouses are no bar", "-", () -> book.bars(bride, own));
        int third = book.enter(2, 0, LAST, 1);
        int man = book.mention(third, 0);
        book.join(book.mention(third, 1), bride, 0);
        degree(-1, -1, book, man, 0, "-", 2);
        degree(-1, -1, book, man, 3, "-", 2);
        Check.due("a bar with the brother of her first husband", "A1", () -> book.bars(bride, 3));
        cousinsThatWed();
    }

    /** Spouses that are kin: a bar of kin between them, and of each with the other one's kin by spouse too. */
    private static void cousinsThatWed() {
        Parishbook book = births(4, new int[] {1, 4}, new int[] {0, 7}, new int[] {3, 10});
        int wedding = book.enter(2, 0, LAST, 0);
        book.join(book.mention(wedding, 0), 6, 0);
        book.join(book.mention(wedding, 1), 9, 0);
        degree(4, 2, book, 6, 9, "K2", 2);
        degree(3, 2, book, 6, 3, "K2 A1", 2);
        degree(1, 1, book, 6, 0, "L A2", 2);
        degree(0, 0, book, 6, 6, "A2", 2);
        degree(2, 1, book, 0, 3, "K1", 2);
        degree(2, 2, book, 6, 1, "L A2", 2);
    }

    /** Baptism 1: 5 is the godmother, 4 the godfather of 3, who is the child 0 of 1 and 2. */
    private static void godparents() {
        Parishbook book = Registers.of(0, 1, 0);
        book.join(0, 3, 0);
        degree(-1, -1, book, 4, 0, "S", 1);
        degree(-1, -1, book, 5, 0, "S", 1);
        degree(-1, -1, book, 4, 1, "S", 2);
        degree(-1, -1, book, 4, 2, "S", 1);
        degree(-1, -1, book, 5, 1, "S", 1);
        degree(-1, -1, book, 5, 2, "S", 2);
        degree(-1, -1, book, 4, 5, "-", 0);
        degree(-1, -1, book, 4, 6, "-", 0);
        book.join(7, 0, 0);
        degree(-1, -1, book, 4, 6, "-", 0);
        degree(2, 2, book, 6, 1, "L", 2);
        Parishbook first = Registers.of(1, 0);
        first.join(0, 3, 0);
        degree(-1, -1, first, 1, 0, "S", 1);
        degree(-1, -1, first, 2, 4, "S", 1);
        degree(-1, -1, first, 1, 4, "S", 2);
        degree(-1, -1, first, 1, 5, "S", 1);
    }

    private static void leaves() {
        Parishbook book = Registers.of(2, 2, 3);
        int[][] want = {{0, 0, 2}, {0, 3, 2}, {1, 4, 2}, {0, 4, 0}, {0, 1, 0}, {2, 5, 0}, {2, 2, 2}, {6, 7, 0},
            {0, 6, 0}, {1, 7, 0}};
        for (int[] row : want) {
            Check.due("leave " + row[0] + " " + row[1], row[2], () -> book.leave(row[0], row[1]));
        }
        book.join(6, 0, 0);
        Check.due("of one sex by another mention", 2, () -> book.leave(6, 3));
        Check.due("of both sexes", 0, () -> book.leave(6, 4));
    }

    /** The first birth with a father, and the first one with a mother, each of the ENTRIES by number. */
    private static void parents() {
        Parishbook book = new Parishbook();
        for (int e = 0; e < 3; e++) {
            book.enter(0, 100 - e, LAST, e % 2);
            book.mention(e, 0);
        }
        book.same(0, 1);
        book.same(1, 2);
        Check.due("joined", 0, () -> book.join(0, 1, 0));
        Check.due("0 and 2 are not the same", -9, () -> book.join(1, 2, 0));
        Check.due("father of the second birth", 3, () -> book.mention(1, 1));
        Check.due("by the second birth, as the first has none", 3, () -> book.ofMention(0, 4));
        Check.due("no mother", -1, () -> book.ofMention(0, 5));
        book.mention(0, 1);
        Check.due("by the first birth now", 4, () -> book.ofMention(1, 4));
        Check.due("the other one has no child", 0, () -> book.ofMention(3, 6));
        Check.due("this one has", 1, () -> book.ofMention(4, 6));
        book.mention(1, 2);
        Check.due("a mother by the second birth", 5, () -> book.ofMention(0, 5));
        Check.due("tree", "0(4,5)", () -> book.tree(1));
        Check.due("father and mother have no way", -1, () -> book.degree(4, 5, true));
        Check.due("one child of both", "1/4", () -> book.common(4, 0));
        book.undo();
        book.undo();
        Check.due("tree as it was", "0(3,.)", () -> book.tree(1));
    }

    /** A SEX by one mention, whichever; none when that one went. */
    private static void sexes() {
        Parishbook book = Registers.of(3, 2, 3);
        book.join(0, 2, 0);
        book.join(2, 6, 0);
        for (int m : new int[] {0, 2, 6}) {
            Check.due("sex by the mention in the middle", 1, () -> book.ofMention(m, 3));
        }
        book.unsay(0);
        Check.due("no sex any more", 0, () -> book.ofMention(0, 3));
        Check.due("but still of the others", 1, () -> book.ofMention(6, 3));
        book.join(0, 3, 0);
        Check.due("another sex", 2, () -> book.ofMention(0, 3));
        book.undo();
        book.undo();
        Check.due("sex as it was", 1, () -> book.ofMention(0, 3));
        Check.due("sex of a witness", 0, () -> book.ofMention(4, 3));
        Check.due("sex of who is left", 0, () -> book.ofMention(1, 3));
    }

    /** What was known of kin is not known any more when a saying went. */
    private static void goneAgain() {
        Parishbook book = births(3, new int[] {1, 3}, new int[] {2, 6}, new int[] {4, 7});
        Check.due("tree", "0(1(4,5),2(4,8))", () -> book.tree(0));
        Check.due("loops", 1, () -> book.loops(0));
        Check.due("part", "1/8", () -> book.common(3, 6));
        book.unsay(2);
        Check.due("no loops", 0, () -> book.loops(0));
        Check.due("tree", "0(1(4,5),2(7,8))", () -> book.tree(0));
        Check.due("no part", "0", () -> book.common(3, 6));
        Check.due("no way", -1, () -> book.degree(3, 6, true));
        Check.due("part with itself", "1/2", () -> book.common(0, 0));
        book.unsay(0);
        Check.due("tree", "0(1,2(7,8))", () -> book.tree(0));
        Check.due("number of who is no forebear", -1, () -> book.number(0, 4));
        Check.due("letters to who is no child", "-", () -> book.letters(4, 0));
        book.undo();
        book.undo();
        Check.due("loops again", 1, () -> book.loops(0));
        Check.due("part again", "9/16", () -> book.common(0, 0));
    }
}
