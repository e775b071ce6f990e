/** Each reason for which a call is REFUSED, what is nearest to it and is not, and what is left behind it. */
public final class RefusedTest {
    private RefusedTest() {
    }

    public static void main(String[] args) {
        parted();
        sexes();
        ofOneEntry();
        onceInALife();
        roundByBirths();
        parts();
        nicks();
        counts();
        matchesAreNotRefused();
        Check.end();
    }

    private static void refused(String what, Untouched.Made made, int one, int other) {
        Untouched.byRefusal(what, made, x -> x.join(one, other, 3));
        Untouched.byRefusal(what + ", the other way round", made, x -> x.join(other, one, 3));
    }

    private static void joined(String what, Untouched.Made made, int one, int other) {
        for (int i = 0; i < 2; i++) {
            Parishbook book = made.make();
            int first = i == 0 ? one : other;
            int second = i == 0 ? other : one;
            int steps = Math.min(8, book.house(6) + 1);
            int person = Math.min(book.person(one), book.person(other));
            Check.due(what + " " + i, person, () -> book.join(first, second, 3));
            Check.due(what + " " + i + " is no refusal", 0, () -> book.house(7));
            Check.due(what + " " + i + " is a step", steps, () -> book.house(6));
        }
    }

    /** Weddings 0 to 2, 3 to 5, 6 to 8, 9 to 11; the grooms 0, 3, 6, 9 can be joined unless they are parted. */
    private static Parishbook weddings(int[]... parted) {
        Parishbook book = Registers.of(2, 2, 2, 2);
        for (int[] pair : parted) {
            book.part(pair[0], pair[1]);
        }
        return book;
    }

    private static void parted() {
        joined("grooms that nobody parted", () -> weddings(), 0, 9);
        joined("grooms, others are parted", () -> weddings(new int[] {0, 6}), 0, 9);
        refused("the parted", () -> weddings(new int[] {0, 9}), 0, 9);
        refused("the parted, told as the last one", () -> weddings(new int[] {0, 3}, new int[] {9, 0}), 0, 9);
        refused("one that is a person with a parted one", () -> {
            Parishbook book = weddings(new int[] {0, 9});
            book.join(0, 3, 0);
            return book;
        }, 3, 9);
        refused("two persons with parted ones in them", () -> {
            Parishbook book = weddings(new int[] {0, 9});
            book.join(0, 3, 0);
            book.join(9, 6, 0);
            return book;
        }, 3, 6);
    }

    /** Birth 0 to 2, baptism 3 to 5, wedding 6 to 8, death 9 and 10, wedding 11 to 13. */
    private static Parishbook kinds() {
        return Registers.of(0, 1, 2, 3, 2);
    }

    private static void sexes() {
        int[] men = {1, 4, 6};
        int[] women = {2, 5, 12};
        int[] others = {9, 10, 13};
        for (int man : men) {
            for (int woman : women) {
                boolean isOneEntry = man == 1 && woman == 2 || man == 4 && woman == 5;
                refused("a man and a woman" + (isOneEntry ? " of one entry" : ""), RefusedTest::kinds, man, woman);
            }
            for (int other : others) {
                joined("a man and one of no sex", RefusedTest::kinds, man, other);
            }
        }
        for (int woman : women) {
            joined("a woman and one of no sex", RefusedTest::kinds, woman, woman == 12 ? 9 : 13);
        }
        joined("father and groom", RefusedTest::kinds, 1, 6);
        joined("father and godfather", RefusedTest::kinds, 1, 4);
        joined("mother and bride", RefusedTest::kinds, 2, 7);
        joined("mother and godmother", RefusedTest::kinds, 2, 5);
        refused("a woman and one that is a man by another mention", () -> {
            Parishbook book = kinds();
            book.join(10, 1, 0);
            return book;
        }, 7, 10);
    }

    private static void ofOneEntry() {
        for (int kind = 0; kind < 4; kind++) {
            int own = kind;
            refused("roles 0 and 1 of kind " + kind, () -> Registers.of(own), 0, 1);
            if (kind < 3) {
                refused("roles 0 and 2 of kind " + kind, () -> Registers.of(own), 0, 2);
                refused("roles 1 and 2 of kind " + kind, () -> Registers.of(own), 1, 2);
            }
        }
        refused("who has both roles of an entry by two mentions", () -> {
            Parishbook book = Registers.of(3, 2);
            book.join(0, 4, 0);
            return book;
        }, 1, 4);
    }

    /** In the role 0 of two births, baptisms or deaths, but for the same ones; weddings can be many. */
    private static void onceInALife() {
        for (int kind : new int[] {0, 1, 3}) {
            int second = kind == 3 ? 2 : 3;
            refused("two entries of kind " + kind, () -> Registers.of(kind, kind), 0, second);
            joined("one entry of kind " + kind + " in both books", () -> {
                Parishbook book = Registers.of(kind, kind);
                book.same(1, 0);
                return book;
            }, 0, second);
            refused("two entries of kind " + kind + ", others are the same", () -> {
                Parishbook book = Registers.of(kind, kind, kind);
                book.same(1, 2);
                return book;
            }, 0, second);
            refused("entries of kind " + kind + " that are the same as one, but not of each other", () -> {
                Parishbook book = Registers.of(kind, kind, kind);
                book.same(0, 1);
                book.same(1, 2);
                book.join(0, second, 0);
                return book;
            }, 0, 2 * second);
        }
        refused("twins", () -> {
            Parishbook book = Registers.of(0, 0);
            book.twins(0, 1);
            return book;
        }, 0, 3);
        joined("grooms of two weddings", () -> Registers.of(2, 2), 0, 3);
        joined("brides of two weddings", () -> Registers.of(2, 2), 1, 4);
        joined("who is left by two deaths", () -> Registers.of(3, 3), 1, 3);
        joined("fathers of two births", () -> Registers.of(0, 0), 1, 4);
        joined("a child and who is baptized", () -> Registers.of(0, 1), 0, 3);
        joined("who is baptized and the dead", () -> Registers.of(1, 3), 0, 3);
        joined("a child and the dead", () -> Registers.of(0, 3), 0, 3);
        joined("the dead and who is left by another one", () -> Registers.of(3, 3), 0, 3);
    }

    /** Births with some roles each; child, father, mother have the letters c, f, m. */
    private static Parishbook births(String... roles) {
        Parishbook book = new Parishbook();
        for (int e = 0; e < roles.length; e++) {
            book.enter(0, 0, Registers.LAST, e % 2);
            for (char role : roles[e].toCharArray()) {
                book.mention(e, "cfm".indexOf(role));
            }
        }
        return book;
    }

    private static Untouched.Made joinedBirths(int[][] joins, String... roles) {
        return () -> {
            Parishbook book = births(roles);
            for (int[] pair : joins) {
                book.join(pair[0], pair[1], 0);
            }
            return book;
        };
    }

    private static void roundByBirths() {
        refused("a father's father is his child", joinedBirths(new int[][] {{0, 3}}, "cf", "cf"), 1, 2);
        refused("a mother's mother is her child", joinedBirths(new int[][] {{0, 3}}, "cm", "cm"), 1, 2);
        refused("a father's mother is his child", joinedBirths(new int[][] {{0, 3}}, "cf", "cm"), 1, 2);
        refused("round by three births", joinedBirths(new int[][] {{1, 2}, {3, 4}}, "cf", "cm", "cf"), 0, 5);
        joined("three births in a row", joinedBirths(new int[][] {{1, 2}}, "cf", "cm", "cf"), 3, 4);
        refused("round by ten births", joinedBirths(new int[][] {{1, 2}, {3, 4}, {5, 6}, {7, 8}, {9, 10}, {11, 12},
                {13, 14}, {15, 16}, {17, 18}}, "cf", "cf", "cf", "cf", "cf", "cf", "cf", "cf", "cf", "cf"), 0, 19);
        joined("a father of two", joinedBirths(new int[][] {{0, 3}}, "cf", "cf", "cf"), 3, 5);
        joined("a birth without a child leads nowhere", joinedBirths(new int[][] {}, "fm", "cf"), 2, 0);
        secondBirths();
        godparents();
    }

    /** The father by any of its births leads up, though he be no FATHER. */
    private static void secondBirths() {
        Untouched.Made made = () -> {
            Parishbook book = births("cf", "cf", "cf");
            book.same(0, 1);
            book.join(0, 2, 0);
            book.join(4, 3, 0);
            return book;
        };
        refused("the father by the second birth is his child", made, 5, 0);
        joined("the father by the second birth has a father", () -> {
            Parishbook book = births("cf", "cf", "cf");
            book.same(0, 1);
            book.join(0, 2, 0);
            return book;
        }, 4, 3);
    }

    /** Godparents, spouses and those that are left lead nowhere. */
    private static void godparents() {
        joined("each other's godfathers", () -> {
            Parishbook book = Registers.of(1, 1);
            book.join(0, 4, 0);
            return book;
        }, 1, 3);
        joined("a godfather who is a child of his godchild", () -> {
            Parishbook book = Registers.of(0, 1);
            book.join(1, 3, 0);
            return book;
        }, 0, 4);
        joined("a bride who is her groom's mother", () -> {
            Parishbook book = Registers.of(0, 2);
            book.join(0, 3, 0);
            return book;
        }, 2, 4);
        joined("who is left by a child", () -> {
            Parishbook book = Registers.of(0, 3);
            book.join(0, 3, 0);
            return book;
        }, 1, 4);
    }

    private static void parts() {
        Untouched.byRefusal("part of joined ones", Registers::small, x -> x.part(0, 3));
        Untouched.byRefusal("part of joined ones, the other way round", Registers::small, x -> x.part(3, 0));
        Untouched.byRefusal("part of ones that are joined by another one", Registers::small, x -> x.part(3, 9));
        Untouched.byRefusal("part with eleven sayings", () -> {
            Parishbook book = Registers.full();
            book.unsay(11);
            return book;
        }, x -> x.part(18, 0));
        Parishbook book = Registers.small();
        Check.due("part of who are not one person", 4, () -> book.part(0, 1));
        Check.due("part of who are not one person, told of another mention", 5, () -> book.part(1, 9));
        book.unsay(1);
        Check.due("part of who are no more one person", 5, () -> book.part(0, 9));
        Check.due("sayings", "0#9", () -> book.saying(4));
        Check.due("no refusal", 0, () -> book.house(7));
    }

    private static void nicks() {
        Untouched.byRefusal("nick with a mark", Registers::small, x -> x.nick(0, 9));
        Untouched.byRefusal("nick of a mark", Registers::small, x -> x.nick(9, 0));
        Untouched.byRefusal("nick of two marks", Registers::small, x -> x.nick(9, 10));
        Untouched.byRefusal("nick of one mark", Registers::small, x -> x.nick(10, 10));
        Untouched.byRefusal("nick of one mention", Registers::small, x -> x.nick(6, 6));
        Untouched.byRefusal("nick of one name", Registers::small, x -> x.nick(6, 7));
        Untouched.byRefusal("nick of one key of two names", RefusedTest::alike, x -> x.nick(0, 1));
        Untouched.byRefusal("nick twice", Registers::small, x -> x.nick(0, 3));
        Untouched.byRefusal("nick twice, the other way round", Registers::small, x -> x.nick(3, 0));
        Untouched.byRefusal("nick twice, of other mentions", Registers::small, x -> x.nick(5, 2));
        Untouched.byRefusal("nick twice, of other names of these keys", RefusedTest::alike, x -> x.nick(1, 2));
        Parishbook book = Registers.small();
        Check.due("nick of one of them with another one", 2, () -> book.nick(0, 6));
        Check.due("nick of the other one with that", 3, () -> book.nick(8, 4));
        Check.due("no refusal", 0, () -> book.house(7));
    }

    /** Two names with the key 11, and one of the key 2 that is a nick of these. */
    private static Parishbook alike() {
        Parishbook book = new Parishbook();
        book.enter(0, 0, 0, 0);
        String[] names = {"bob", "pap", "fay"};
        for (int role = 0; role < 3; role++) {
            Pen.write(book, names[role]);
            book.mention(0, role);
        }
        book.nick(2, 0);
        return book;
    }

    /** Each refusal counts, no undo takes one back, and no throw is one. */
    private static void counts() {
        Parishbook book = Registers.small();
        for (int i = 1; i <= 12; i++) {
            int count = i;
            Check.due("refusal", -9, () -> count % 3 == 0 ? book.join(0, 1, 0) : count % 3 == 1 ? book.part(0, 3)
                    : book.nick(9, 9));
            Check.due("how often", count, () -> book.house(7));
        }
        Check.state("a throw", () -> book.join(0, 3, 0));
        Check.due("how often behind a throw", 12, () -> book.house(7));
        book.undo();
        book.undo();
        Check.due("how often behind undo", 12, () -> book.house(7));
        Check.due("sayings behind undo of two", 1, () -> book.house(3));
        Check.due("refusal", -9, () -> book.nick(9, 9));
        Check.due("how often", 13, () -> book.house(7));
        Parishbook put = new Parishbook();
        put.enter(0, 0, 9, 0);
        Check.due("nine days fewer", -9, () -> put.put(0, 0, 0));
        Check.due("are no refusal", 0, () -> put.house(7));
        Check.due("but a step", 2, () -> put.house(6));
    }

    /** A match leaves out what would contradict, and tells no refusal for it. */
    private static void matchesAreNotRefused() {
        Parishbook book = new Parishbook();
        book.enter(0, 0, 0, 0);
        book.enter(0, 0, 0, 1);
        Pen.write(book, "ann");
        Registers.mentionAll(book, 0);
        Registers.mentionAll(book, 1);
        Check.due("fathers and mothers", 0, () -> book.match(0, 1, 0, 2, 1));
        Check.due("a child of one birth and a father of the other one, and back", 1, () -> book.match(0, 0, 0, 1, 1));
        Check.due("a saying", "0=4:0", () -> book.saying(0));
        Check.due("no refusal", 0, () -> book.house(7));
        Check.due("the father of the first one is his child then", -9, () -> book.join(1, 3, 0));
        Check.due("a refusal", 1, () -> book.house(7));
    }
}
