/** One ordinary case of each promise, in the order of the document, on one village worked out by hand. */
public final class PromisesTest {
    private PromisesTest() {
    }

    /**
     * The village, by entries: 0 birth of thomas (mentions 0 to 2: he, father, mother), 1 his baptism (3: he,
     * 4: godfather), 2 birth of his sister anne (5 to 7), 3 his wedding (8: groom, 9: bride, 10: witness),
     * 4 and 5 births of his children (11 to 13, 14 to 16), 6 his death at the age of 60 (17: he, 18: who is
     * left). PERSONS: 0 thomas, 1 and 2 his parents, 4 his godfather, 5 anne, 9 his wife, 11 and 14 his children.
     */
    private static Parishbook village() {
        Parishbook book = new Parishbook();
        enter(book, 0, 14000, 14200, "thomas", "adam", "eve");
        enter(book, 1, 14000, 14365, "tomas", "will");
        enter(book, 0, 14700, 14800, "anne", "adam", "");
        enter(book, 2, 23000, 24000, "tom", "mary", "will");
        enter(book, 0, 24000, 24500, "john", "tom", "mary");
        enter(book, 0, 25000, 25100, "rose", "tom", "mary");
        enter(book, 3, 36000, 37000, "thomas", "mary");
        int[][] joins = {{0, 3}, {1, 6}, {2, 7}, {0, 8}, {8, 12}, {9, 13}, {8, 15}, {9, 16}, {0, 17}, {9, 18}, {4, 10}};
        for (int i = 0; i < joins.length; i++) {
            book.join(joins[i][0], joins[i][1], i % 10);
        }
        book.age(6, 60);
        return book;
    }

    private static void enter(Parishbook book, int kind, int from, int to, String... names) {
        int entry = book.enter(kind, from, to, 0);
        for (int role = 0; role < names.length; role++) {
            Pen.write(book, names[role]);
            book.mention(entry, role);
        }
    }

    public static void main(String[] args) {
        daysAndNames();
        entries();
        sayings();
        stepsBack();
        whoIsWho(village());
        whatCanBeTrue(village());
        kin(village());
        lives(village());
        whatThereIs(village());
        Check.end();
    }

    private static void due(int promise, Object want, Check.Call call) {
        Check.due("promise " + promise, want, call);
    }

    private static void daysAndNames() {
        Parishbook book = new Parishbook();
        due(1, 0, () -> book.house(0));
        due(2, 31 + 29 + 3, () -> book.day(0, 4, 3, 1600));
        due(2, 365 + 366 - 1, () -> book.day(0, 31, 12, 1601));
        due(2, 10 + 31, () -> book.day(1, 1, 2, 1600));
        due(2, -1, () -> book.day(0, 31, 6, 1650));
        due(3, "1.2.1600", () -> book.date(1, 10 + 31));
        due(3, "1.2.1599", () -> book.date(2, 10 + 31));
        due(4, "8.4.1640", () -> book.date(0, book.feast(0, 0, 1640)));
        due(4, "5.4.1640", () -> book.date(1, book.feast(1, 0, 1640)));
        due(4, 39, () -> book.feast(1, 1, 1640) - book.feast(1, 0, 1640));
        int[] signs = {5, 10, 4, 10, 1, 6, 4, 0, 12};
        for (int i = 0; i < signs.length; i++) {
            int sign = signs[i];
            due(5, i + 1, () -> book.type(sign));
        }
        due(7, -1, () -> book.fault());
        due(8, book.feast(1, 0, 1640), () -> book.told());
        due(6, 9, () -> book.wipe());
        due(7, 0, () -> book.fault());
        due(8, -1, () -> book.told());
        due(9, 6, () -> book.pen(20, 8, 15, 13, 1, 19));
        due(10, "574", () -> book.key());
    }

    private static void entries() {
        Parishbook book = new Parishbook();
        due(11, 0, () -> book.enter(0, 100, 200, 0));
        due(11, 1, () -> book.enter(0, 100, 200, 1));
        due(11, 2, () -> book.enter(0, 100, 200, 0));
        due(11, 3, () -> book.enter(3, 9000, 9999, 0));
        due(12, 0, () -> book.mention(0, 0));
        due(12, 1, () -> book.mention(3, 0));
        due(13, 50, () -> book.put(2, 150, 300));
        due(13, 300, () -> book.ofEntry(2, 2));
        due(14, -1, () -> book.age(3, 24));
        due(14, 24, () -> book.age(3, 25));
        due(16, 1, () -> book.twins(0, 2));
        due(17, 1, () -> book.same(0, 1));
        due(18, 1, () -> book.demand(0, 3, 8000));
        due(18, 2, () -> book.demand(3, 0, -20000));
        due(19, 1, () -> book.undemand(0));
        due(15, 1, () -> book.close(3));
        due(15, 0, () -> book.close(3));
        Check.state("promise 15: a closed one", () -> book.put(3, 0, 0));
    }

    private static void sayings() {
        Parishbook book = new Parishbook();
        enter(book, 0, 0, 9, "thomas", "adam");
        enter(book, 3, 0, 9, "tomas", "tom");
        enter(book, 0, 0, 9, "thomas");
        due(20, 0, () -> book.join(2, 0, 7));
        due(21, 2, () -> book.part(3, 1));
        due(20, -9, () -> book.join(3, 1, 7));
        due(22, 5, () -> book.unsay(0));
        due(29, "1#3", () -> book.saying(0));
        due(28, 0, () -> book.likeness(0, 3));
        due(23, 1, () -> book.nick(0, 3));
        due(23, -9, () -> book.nick(3, 2));
        due(28, 1, () -> book.likeness(0, 3));
        due(24, 1, () -> book.match(0, 0, 3, 0, 2));
        due(29, "0=2:0", () -> book.saying(1));
        due(24, 1, () -> book.match(3, 1, 0, 0, 1));
        due(29, "3=4:0", () -> book.saying(2));
    }

    private static void stepsBack() {
        Parishbook book = village();
        due(25, 7, () -> book.undo());
        due(25, -1, () -> book.ofEntry(6, 4));
        due(25, 6, () -> book.undo());
        due(25, 10, () -> book.person(10));
        due(26, 1, () -> book.knock());
        due(26, 2, () -> book.knock());
    }

    private static void whoIsWho(Parishbook book) {
        due(27, 0, () -> book.person(17));
        due(27, 9, () -> book.person(16));
        due(28, 3, () -> book.likeness(0, 17));
        due(28, 2, () -> book.likeness(0, 3));
        due(28, 0, () -> book.likeness(0, 8));
        due(29, "2=7:2", () -> book.saying(2));
        due(30, "0 3 8 12 15 17", () -> book.mentions(12));
        due(30, "4 10", () -> book.mentions(4));
    }

    /** The age of 60 lets the death lie 365 * 60 to 366 * 61 days behind the birth. */
    private static void whatCanBeTrue(Parishbook book) {
        due(31, 36000, () -> book.bound(6, false));
        due(31, 14200 + 366 * 61, () -> book.bound(6, true));
        due(31, 14200, () -> book.bound(0, true));
        due(32, 365 * 60, () -> book.apart(0, 6));
        due(32, -366 * 61, () -> book.apart(6, 0));
        due(32, 14700 - 14200, () -> book.apart(0, 2));
        due(33, "-", () -> book.clash(true));
        book.put(2, 14300, 14400);
        due(32, 270, () -> book.apart(0, 2));
        book.demand(6, 5, -10000);
        due(33, "5 6", () -> book.clash(true));
        due(33, "5", () -> book.clash(false));
        due(31, -1, () -> book.bound(0, true));
        due(32, -99999, () -> book.apart(0, 2));
    }

    private static void kin(Parishbook book) {
        due(34, 3, () -> book.degree(11, 5, true));
        due(34, 2, () -> book.degree(11, 5, false));
        due(34, -1, () -> book.degree(9, 5, true));
        due(35, "K2", () -> book.bars(11, 5));
        due(35, "A1", () -> book.bars(9, 5));
        due(35, "S", () -> book.bars(4, 2));
        due(35, "L A1", () -> book.bars(17, 11));
        due(35, "-", () -> book.bars(0, 9));
        due(36, 2, () -> book.leave(11, 5));
        due(36, 1, () -> book.leave(4, 2));
        due(36, 0, () -> book.leave(0, 9));
        due(37, "1/8", () -> book.common(11, 5));
        due(37, "1/4", () -> book.common(11, 14));
        due(37, "0", () -> book.common(0, 9));
        due(38, "11<0<1", () -> book.line(11, true));
        due(38, "11<9", () -> book.line(11, false));
        due(39, 2, () -> book.forebear(11, 5));
        due(39, -1, () -> book.forebear(11, 6));
        due(40, 5, () -> book.number(11, 7));
        due(40, -1, () -> book.number(11, 5));
        due(41, "ab", () -> book.letters(6, 14));
        due(41, "b", () -> book.letters(6, 5));
        due(41, "-", () -> book.letters(11, 1));
        due(42, "14(0(1,2),9)", () -> book.tree(14));
        due(43, 0, () -> book.loops(14));
        Parishbook inbred = new Parishbook();
        enter(inbred, 0, 0, 9, "a", "b");
        enter(inbred, 0, 0, 9, "c", "b");
        enter(inbred, 0, 0, 9, "d", "a", "c");
        inbred.join(1, 3, 0);
        inbred.join(0, 5, 0);
        inbred.join(2, 6, 0);
        due(42, "4(0(1,.),2(1,.))", () -> inbred.tree(4));
        due(43, 1, () -> inbred.loops(4));
    }

    private static void lives(Parishbook book) {
        int[][] lives = {{13999, 0}, {14000, 1}, {14200, 2}, {36000, 2}, {36001, 1}, {36526, 1}, {36527, 0}};
        for (int[] life : lives) {
            due(44, life[1], () -> book.alive(3, life[0]));
        }
        String[] houses = {"0 9", "0 9 11", "0 9 11", "0 9 11 14"};
        for (int i = 0; i < houses.length; i++) {
            int year = 1665 + i;
            due(45, houses[i], () -> book.household(3, year));
        }
        due(45, "9 11 14", () -> book.household(3, 1700));
        due(46, "1638-6 21", () -> book.gap(0, 1));
        due(46, "1640-4 272", () -> book.gap(0, 22));
        due(46, "", () -> book.gap(1, 1));
    }

    private static void whatThereIs(Parishbook book) {
        int[] death = {3, 36000, 37000, 0, 60, 0, 2, 17, 18, -1};
        for (int i = 0; i < death.length; i++) {
            int what = i;
            due(47, death[i], () -> book.ofEntry(6, what));
        }
        int[] father = {4, 1, 0, 1, 1, 2, 2, 6, 3};
        for (int i = 0; i < father.length; i++) {
            int what = i;
            due(48, father[i], () -> book.ofMention(12, what));
        }
        int[] house = {7, 19, 8, 11, 0, 1, 8, 0, 0, 0, 0, 0};
        for (int i = 0; i < house.length; i++) {
            int what = i;
            due(49, house[i], () -> book.house(what));
        }
        due(50, true, () -> book.isSound());
        Parishbook one = new Parishbook();
        one.enter(2, 1, 2, 0);
        int[] row = {1, 0, 0, 0, 0, 1, 1, 0, 0, 0, 0, 0, 2, 1, 2, 0, -1, 0, 0, -1, -1, -1, 1, 2, 1, 1, 0, 1, 1};
        long d = 6511;
        for (int v : row) {
            d = d * 31 + v;
        }
        due(51, d, () -> one.digest());
    }
}
