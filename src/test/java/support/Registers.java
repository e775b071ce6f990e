/** Registers that many tests begin with. */
final class Registers {
    static final int LAST = 73413;

    private Registers() {
    }

    static Parishbook empty() {
        return new Parishbook();
    }

    /** All mentions of an entry, in order, each with the name that the pen has. */
    static void mentionAll(Parishbook book, int entry) {
        for (int role = 0; role < (book.ofEntry(entry, 0) == 3 ? 2 : 3); role++) {
            book.mention(entry, role);
        }
    }

    /** Entries of some kinds, as wide as can be, books 0 and 1 by turns, with all their mentions in order. */
    static Parishbook of(int... kinds) {
        Parishbook book = new Parishbook();
        for (int i = 0; i < kinds.length; i++) {
            book.enter(kinds[i], 0, LAST, i % 2);
            mentionAll(book, i);
        }
        return book;
    }

    /** An entry of each kind: birth 0 to 2, baptism 3 to 5, wedding 6 to 8, death 9 and 10; a bit of all. */
    static Parishbook small() {
        Parishbook book = new Parishbook();
        for (int kind = 0; kind < 4; kind++) {
            book.enter(kind, 1000 * kind, 40000 + 1000 * kind, 0);
            Pen.write(book, new String[] {"bob", "fay", "sid", ""}[kind]);
            mentionAll(book, kind);
        }
        book.age(2, 30);
        book.demand(0, 3, 400);
        book.nick(0, 3);
        book.join(0, 3, 1);
        book.join(0, 9, 2);
        book.part(1, 4);
        book.type(3);
        book.knock();
        Pen.write(book, "mary");
        return book;
    }

    /** The same, and all its entries are closed. */
    static Parishbook closed() {
        Parishbook book = small();
        for (int e = 0; e < 4; e++) {
            book.close(e);
        }
        return book;
    }

    /** The same, and not possible. */
    static Parishbook impossible() {
        Parishbook book = small();
        book.demand(3, 0, 0);
        return book;
    }

    /**
     * All that a register can hold: births 0 to 5 (mentions 0 to 17: child, father, mother), baptisms 6
     * and 7 (18 and 19: child and godfather of the first one), wedding 8 (20, 21), death 9 (22, 23).
     */
    static Parishbook full() {
        Parishbook book = new Parishbook();
        for (int i = 0; i < 14; i++) {
            book.type(i);
        }
        int[] kinds = {0, 0, 0, 0, 0, 0, 1, 1, 2, 3};
        for (int e = 0; e < 10; e++) {
            book.enter(kinds[e], e, LAST - e, e % 2);
        }
        String[] names = {"bob", "fay", "cecil", "sue", "tom", "lil", "mary", ""};
        for (int m = 0; m < 24; m++) {
            Pen.write(book, names[m % 8]);
            book.mention(m < 18 ? m / 3 : 6 + (m - 18) / 2 + (m >= 20 ? 1 : 0), m < 18 ? m % 3 : m % 2);
        }
        pairUp(book);
        say(book);
        return book;
    }

    private static void pairUp(Parishbook book) {
        int[][] twins = {{0, 2}, {2, 4}, {0, 4}, {3, 5}};
        int[][] same = {{0, 1}, {2, 3}, {4, 5}, {6, 7}};
        for (int i = 0; i < 4; i++) {
            book.twins(twins[i][0], twins[i][1]);
            book.same(same[i][0], same[i][1]);
        }
        for (int i = 0; i < 6; i++) {
            book.demand(i, 9 - i % 2, 100 * i);
            book.nick(0, i + 1);
        }
    }

    private static void say(Parishbook book) {
        int[][] joins = {{0, 18}, {6, 20}, {9, 21}, {1, 7}, {2, 8}, {4, 10}, {12, 22}};
        for (int i = 0; i < joins.length; i++) {
            book.join(joins[i][0], joins[i][1], i);
        }
        int[][] parts = {{0, 3}, {13, 16}, {14, 17}, {20, 23}, {5, 11}};
        for (int[] pair : parts) {
            book.part(pair[0], pair[1]);
        }
    }
}
