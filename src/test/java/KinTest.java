/** Promises 34 to 43 and 48: degrees, bars, leave, parts in common, lines, numbers, letters, trees, loops. */
public final class KinTest {
    private static final int LAST = 73413;

    private KinTest() {
    }

    public static void main(String[] args) {
        Parishbook book = cousins();
        degrees(book);
        bars(book);
        leaves(book);
        parts(book);
        lines(book);
        numbers(book);
        letters(book);
        ofMention(book);
        wrong(book);
        ownBars();
        inbred();
        twoRoads();
        orderOfChildren();
        ways();
        longLine();
        farCousins();
        spousesOfTheFirstEntry();
        secondBirth();
        Check.end();
    }

    /** A birth with child, father and mother; these are joined to those mentioned ahead, if 0 or more. */
    private static void birth(Parishbook book, int from, int father, int mother) {
        int entry = book.enter(0, from, LAST, 0);
        book.mention(entry, 0);
        int own = book.mention(entry, 1);
        int second = book.mention(entry, 2);
        if (father >= 0) {
            book.join(own, father, 0);
        }
        if (mother >= 0) {
            book.join(second, mother, 0);
        }
    }

    /**
     * 0 and 3 are children of 1 and 2; 6 is a son of 0, 9 a daughter of 3; 12 is a child of 6, 15 one
     * of 9; 19 is the wife of 6; 21 is the godfather of 12, and 3 the godmother.
     */
    private static Parishbook cousins() {
        Parishbook book = new Parishbook();
        birth(book, 0, -1, -1);
        birth(book, 1, 1, 2);
        birth(book, 2, 0, -1);
        birth(book, 3, -1, 3);
        birth(book, 4, 6, -1);
        birth(book, 5, -1, 9);
        book.enter(2, 0, LAST, 0);
        book.mention(6, 0);
        book.mention(6, 1);
        book.enter(1, 0, LAST, 0);
        book.mention(7, 0);
        book.mention(7, 1);
        book.mention(7, 2);
        book.join(18, 6, 0);
        book.join(20, 12, 0);
        book.join(22, 3, 0);
        return book;
    }

    private static void degree(int roman, int other, Parishbook book, int one, int two) {
        String pair = one + " " + two;
        Check.due("Roman degree " + pair, roman, () -> book.degree(one, two, true));
        Check.due("degree " + pair, other, () -> book.degree(one, two, false));
        Check.due("Roman degree back " + pair, roman, () -> book.degree(two, one, true));
        Check.due("degree back " + pair, other, () -> book.degree(two, one, false));
    }

    private static void degrees(Parishbook book) {
        degree(0, 0, book, 6, 6);
        degree(0, 0, book, 7, 0);
        degree(1, 1, book, 0, 1);
        degree(2, 1, book, 0, 3);
        degree(2, 2, book, 1, 6);
        degree(3, 2, book, 3, 6);
        degree(4, 2, book, 6, 9);
        degree(5, 3, book, 6, 15);
        degree(6, 3, book, 12, 15);
        degree(3, 3, book, 15, 1);
        degree(-1, -1, book, 1, 2);
        degree(-1, -1, book, 6, 19);
    }

    private static void bar(String want, Parishbook book, int one, int two) {
        Check.due("bars " + one + " " + two, want, () -> book.bars(one, two));
        Check.due("bars " + two + " " + one, want, () -> book.bars(two, one));
    }

    private static void bars(Parishbook book) {
        bar("L", book, 1, 12);
        bar("L", book, 12, 6);
        bar("K1", book, 0, 3);
        bar("K2", book, 6, 9);
        bar("K2 S", book, 3, 6);
        bar("K3", book, 12, 15);
        bar("K3 S", book, 3, 12);
        bar("A1", book, 0, 19);
        bar("A2", book, 1, 19);
        bar("A2", book, 9, 19);
        bar("A1", book, 12, 19);
        bar("A2", book, 3, 19);
        bar("-", book, 15, 19);
        bar("-", book, 6, 19);
        bar("S", book, 21, 12);
        bar("S", book, 21, 6);
        bar("S", book, 14, 3);
        bar("-", book, 21, 0);
        bar("-", book, 21, 15);
        bar("-", book, 1, 2);
        bar("-", book, 6, 6);
    }

    private static void leave(int want, Parishbook book, int one, int two) {
        Check.due("leave " + one + " " + two, want, () -> book.leave(one, two));
        Check.due("leave " + two + " " + one, want, () -> book.leave(two, one));
    }

    private static void leaves(Parishbook book) {
        leave(2, book, 6, 6);
        leave(2, book, 18, 6);
        leave(2, book, 12, 1);
        leave(2, book, 0, 3);
        leave(2, book, 6, 9);
        leave(1, book, 12, 15);
        leave(1, book, 3, 12);
        leave(2, book, 0, 19);
        leave(2, book, 12, 19);
        leave(1, book, 1, 19);
        leave(2, book, 9, 19);
        leave(1, book, 14, 21);
        leave(0, book, 15, 19);
        leave(0, book, 1, 2);
        leave(2, book, 2, 8);
        leave(2, book, 1, 10);
        leave(1, book, 12, 21);
        leave(0, book, 15, 21);
    }

    private static void part(String want, Parishbook book, int one, int two) {
        Check.due("common " + one + " " + two, want, () -> book.common(one, two));
        Check.due("common " + two + " " + one, want, () -> book.common(two, one));
    }

    private static void parts(Parishbook book) {
        part("1/2", book, 6, 6);
        part("1/4", book, 0, 1);
        part("1/4", book, 0, 3);
        part("1/8", book, 1, 6);
        part("1/8", book, 3, 6);
        part("1/16", book, 6, 9);
        part("1/32", book, 6, 15);
        part("1/64", book, 12, 15);
        part("0", book, 1, 2);
        part("0", book, 6, 19);
    }

    private static void lines(Parishbook book) {
        Check.due("fathers", "12<6<0<1", () -> book.line(12, true));
        Check.due("mothers", "12<14", () -> book.line(12, false));
        Check.due("mothers", "15<9<3<2", () -> book.line(15, false));
        Check.due("fathers", "19", () -> book.line(19, true));
        Check.due("tree", "12(6(0(1,2),8),14)", () -> book.tree(20));
        Check.due("tree", "15(16,9(10,3(1,2)))", () -> book.tree(15));
        Check.due("tree", "19", () -> book.tree(19));
        for (int m = 0; m < 23; m++) {
            int mention = m;
            Check.due("loops " + m, 0, () -> book.loops(mention));
        }
    }

    private static void number(int want, Parishbook book, int one, int two) {
        Check.due("number " + one + " " + two, want, () -> book.number(one, two));
        if (want != -1) {
            int person = book.person(two);
            Check.due("forebear " + want + " of " + one, person, () -> book.forebear(one, want));
        }
    }

    private static void numbers(Parishbook book) {
        number(1, book, 12, 20);
        number(2, book, 12, 6);
        number(3, book, 12, 14);
        number(4, book, 12, 0);
        number(5, book, 12, 8);
        number(8, book, 12, 1);
        number(9, book, 12, 2);
        number(14, book, 15, 1);
        number(15, book, 15, 2);
        number(-1, book, 12, 3);
        number(-1, book, 6, 12);
        for (int none : new int[] {6, 7, 10, 16, 31, 32, 2048, 4095}) {
            Check.due("forebear " + none, -1, () -> book.forebear(12, none));
        }
    }

    private static void letters(Parishbook book) {
        String[] want = {"", "aaa", "-", "-", "baa", "aa", "ba"};
        int[][] pairs = {{12, 20}, {1, 12}, {12, 1}, {0, 9}, {2, 15}, {2, 6}, {1, 9}};
        for (int i = 0; i < want.length; i++) {
            int one = pairs[i][0];
            int two = pairs[i][1];
            Check.due("letters " + one + " " + two, want[i], () -> book.letters(one, two));
        }
    }

    private static void ofMention(Parishbook book) {
        int[] want = {7, 0, 12, 0, 6, 14, 0, 2, 0};
        for (int i = 0; i < want.length; i++) {
            int what = i;
            Check.due("ofMention " + i, want[i], () -> book.ofMention(20, what));
        }
        int[] ofFather = {2, 1, 0, 1, 1, 2, 1, 2, 0};
        for (int i = 0; i < ofFather.length; i++) {
            int what = i;
            Check.due("ofMention " + i + " of 7", ofFather[i], () -> book.ofMention(7, what));
        }
        Check.due("children of 1", 2, () -> book.ofMention(1, 6));
        Check.due("no father", -1, () -> book.ofMention(1, 4));
        Check.due("no mother", -1, () -> book.ofMention(1, 5));
        int[] sexes = {1, 1, 2, 2, 1, 2, 1, 1, 2, 2, 1, 2, 0, 1, 2, 0, 1, 2, 1, 2, 0, 1, 2};
        for (int m = 0; m < sexes.length; m++) {
            int mention = m;
            Check.due("sex of " + m, sexes[m], () -> book.ofMention(mention, 3));
        }
        Check.argument("what -1", () -> book.ofMention(0, -1));
        Check.argument("what 9", () -> book.ofMention(0, 9));
    }

    private static void wrong(Parishbook book) {
        for (int none : new int[] {-1, 23, Integer.MAX_VALUE, Integer.MIN_VALUE}) {
            Check.index("degree", () -> book.degree(none, 0, true));
            Check.index("degree", () -> book.degree(0, none, false));
            Check.index("bars", () -> book.bars(none, 0));
            Check.index("bars", () -> book.bars(0, none));
            Check.index("leave", () -> book.leave(none, 0));
            Check.index("leave", () -> book.leave(0, none));
            Check.index("common", () -> book.common(none, 0));
            Check.index("common", () -> book.common(0, none));
            Check.index("line", () -> book.line(none, true));
            Check.index("forebear", () -> book.forebear(none, 0));
            Check.index("number", () -> book.number(none, 0));
            Check.index("number", () -> book.number(0, none));
            Check.index("letters", () -> book.letters(none, 0));
            Check.index("letters", () -> book.letters(0, none));
            Check.index("tree", () -> book.tree(none));
            Check.index("loops", () -> book.loops(none));
            Check.index("ofMention", () -> book.ofMention(none, 99));
        }
        Check.argument("forebear 0", () -> book.forebear(0, 0));
        Check.argument("forebear -1", () -> book.forebear(0, -1));
        Check.argument("forebear 4096", () -> book.forebear(0, 4096));
    }

    /** Bars of one person with itself: a spouse that is kin, and a child's godfather. */
    private static void ownBars() {
        Parishbook book = new Parishbook();
        birth(book, 0, -1, -1);
        birth(book, 0, 1, 2);
        book.enter(2, 0, LAST, 0);
        book.mention(2, 0);
        book.mention(2, 1);
        book.join(6, 0, 0);
        book.join(7, 3, 0);
        bar("K1", book, 0, 3);
        bar("A1", book, 0, 0);
        bar("A1", book, 3, 3);
        bar("L A1", book, 0, 1);
        leave(2, book, 0, 0);
        book.enter(1, 0, LAST, 0);
        book.mention(3, 0);
        book.mention(3, 1);
        book.join(9, 1, 0);
        book.join(8, 0, 0);
        bar("S", book, 1, 1);
        bar("L A1 S", book, 1, 0);
        bar("S", book, 1, 2);
    }

    /** Children of a brother with a sister, and of these once more. */
    private static void inbred() {
        Parishbook book = new Parishbook();
        birth(book, 0, -1, -1);
        birth(book, 0, 1, 2);
        birth(book, 0, 0, 3);
        birth(book, 0, 0, 3);
        birth(book, 0, 6, 9);
        part("5/8", book, 6, 6);
        part("3/8", book, 6, 9);
        part("3/8", book, 6, 0);
        part("1/4", book, 6, 1);
        part("11/16", book, 12, 12);
        part("1/2", book, 12, 6);
        Check.due("loops of 6", 2, () -> book.loops(6));
        Check.due("loops of 12", 4, () -> book.loops(12));
        Check.due("loops of 0", 0, () -> book.loops(0));
        Check.due("tree", "6(0(1,2),3(1,2))", () -> book.tree(6));
        number(4, book, 6, 1);
        number(5, book, 6, 2);
        number(8, book, 12, 1);
        degree(2, 2, book, 6, 1);
        degree(1, 1, book, 6, 0);
        Check.due("letters", "aaa", () -> book.letters(1, 12));
        Check.due("sound", true, () -> book.isSound());
    }

    /** From 1 down to 9 by two children, and by one more birth: the fewest letters, then the dictionary. */
    private static void twoRoads() {
        Parishbook book = new Parishbook();
        birth(book, 30, -1, -1);
        birth(book, 20, 1, -1);
        birth(book, 10, 1, -1);
        birth(book, 5, 0, 3);
        birth(book, 4, 9, 6);
        Check.due("children of 1", 3, () -> book.ofMention(1, 6));
        Check.due("letters to 0", "c", () -> book.letters(1, 0));
        Check.due("letters to 3", "b", () -> book.letters(1, 3));
        Check.due("letters to 6", "a", () -> book.letters(1, 6));
        Check.due("letters to 9", "ba", () -> book.letters(1, 9));
        Check.due("letters to 12", "aa", () -> book.letters(1, 12));
        book.put(1, 40, LAST);
        Check.due("letters to 9, put in another order", "ba", () -> book.letters(1, 9));
        Check.due("letters to 3, put in another order", "c", () -> book.letters(1, 3));
        book.put(1, 30, LAST);
        Check.due("letters to 0 of one day with 3", "b", () -> book.letters(1, 0));
        Check.due("letters to 3 of one day with 0", "c", () -> book.letters(1, 3));
        number(4, book, 9, 1);
        Check.due("loops of 9", 1, () -> book.loops(9));
        Check.due("loops of 12", 1, () -> book.loops(12));
    }

    private static void orderOfChildren() {
        Parishbook book = new Parishbook();
        for (int i = 0; i < 8; i++) {
            book.enter(0, 100 - i, LAST, i % 2);
            book.mention(i, 0);
            book.mention(i, 1);
            if (i > 0) {
                book.join(1, 2 * i + 1, 0);
            }
        }
        for (int i = 0; i < 8; i++) {
            int child = 2 * i;
            String letter = String.valueOf((char) ('a' + 7 - i));
            Check.due("letter of " + child, letter, () -> book.letters(1, child));
        }
        book.same(0, 7);
        book.join(0, 14, 0);
        Check.due("the first birth counts", "g", () -> book.letters(1, 0));
        Check.due("children", 7, () -> book.ofMention(1, 6));
    }

    /** The two degrees by unlike ways: 3 is a forebear of 15 by three births; both have 1 two above. */
    private static void ways() {
        Parishbook book = new Parishbook();
        birth(book, 0, -1, -1);
        birth(book, 0, 0, -1);
        birth(book, 0, 3, -1);
        birth(book, 0, 6, -1);
        birth(book, 0, 1, -1);
        birth(book, 0, 9, 12);
        degree(3, 2, book, 15, 3);
        degree(2, 1, book, 0, 12);
        degree(2, 2, book, 15, 1);
        Check.due("bars", "L", () -> book.bars(15, 3));
        Check.due("loops", 1, () -> book.loops(15));
        part("3/32", book, 15, 3);
    }

    /** Ten births, each the father of the next one: numbers to 1024 and above. */
    private static void longLine() {
        Parishbook book = new Parishbook();
        for (int i = 0; i < 10; i++) {
            book.enter(0, 0, LAST, 0);
            book.mention(i, 0);
            book.mention(i, i == 4 ? 2 : 1);
            if (i > 0) {
                book.join(2 * i, 2 * i - 1, 0);
            }
        }
        Check.due("line", "0<1<3<5<7", () -> book.line(0, true));
        Check.due("tree", "0(1(3(5(7(.,9(11(13(15(17(19,.),.),.),.),.)),.),.),.),.)", () -> book.tree(0));
        number(1024 + 32, book, 0, 19);
        Check.due("forebear beyond", -1, () -> book.forebear(0, 2112));
        Check.due("degree", 10, () -> book.degree(0, 19, true));
        Check.due("common", "1/2048", () -> book.common(0, 19));
        Check.due("letters", "aaaaaaaaaa", () -> book.letters(19, 0));
        Check.due("bars", "L", () -> book.bars(19, 0));
        Check.due("sound", true, () -> book.isSound());
    }

    /** Two lines down from 1: four births to 6, five to 16; 14 is the father of 16. */
    private static void farCousins() {
        Parishbook book = new Parishbook();
        int[] fathers = {-1, 0, 2, 4, 1, 8, 10, 12, 14};
        for (int i = 0; i < fathers.length; i++) {
            book.enter(0, 0, LAST, 0);
            book.mention(i, 0);
            book.mention(i, 1);
            if (fathers[i] >= 0) {
                book.join(2 * i + 1, fathers[i], 0);
            }
        }
        degree(8, 4, book, 6, 14);
        degree(9, 5, book, 6, 16);
        bar("K4", book, 6, 14);
        bar("K3", book, 4, 12);
        bar("-", book, 6, 16);
        bar("-", book, 4, 16);
        bar("K4", book, 4, 14);
        bar("K4", book, 0, 14);
        leave(1, book, 6, 14);
        leave(0, book, 6, 16);
        leave(2, book, 4, 14);
        leave(1, book, 6, 12);
        part("1/512", book, 6, 14);
    }

    /** 0 has wed 1 in the first entry; 3 is a brother of 0, 6 a child of 3. */
    private static void spousesOfTheFirstEntry() {
        Parishbook book = new Parishbook();
        book.enter(2, 0, LAST, 0);
        book.mention(0, 1);
        book.mention(0, 0);
        for (int e = 1; e < 4; e++) {
            book.enter(0, 0, LAST, 0);
            book.mention(e, 0);
            book.mention(e, 1);
        }
        book.join(2, 1, 0);
        book.join(3, 5, 0);
        book.join(7, 4, 0);
        bar("A1", book, 0, 4);
        bar("A2", book, 0, 6);
        bar("A1", book, 0, 3);
        bar("K2", book, 1, 6);
        bar("-", book, 0, 1);
        leave(2, book, 0, 4);
        leave(1, book, 0, 6);
    }

    /** The first birth with a father, and the first one with a mother. */
    private static void secondBirth() {
        Parishbook book = new Parishbook();
        book.enter(0, 0, LAST, 0);
        book.enter(0, 0, LAST, 1);
        book.mention(0, 0);
        book.mention(0, 2);
        book.mention(1, 0);
        book.mention(1, 1);
        book.mention(1, 2);
        book.same(0, 1);
        book.join(0, 2, 0);
        Check.due("tree", "0(3,1)", () -> book.tree(2));
        Check.due("children of 4", 0, () -> book.ofMention(4, 6));
        book.undo();
        Check.due("tree of the first", "0(.,1)", () -> book.tree(0));
        Check.due("tree of the second", "2(3,4)", () -> book.tree(2));
    }
}
