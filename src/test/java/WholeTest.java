/** Promises 50 and 51: isSound, and digest by the answers of all other calls. */
public final class WholeTest {
    private static final int LAST = 73413;

    private WholeTest() {
    }

    public static void main(String[] args) {
        Parishbook book = new Parishbook();
        look("a new one", book);
        Pen.write(book, "mary");
        book.type(1);
        book.type(10);
        look("a slip and a pen", book);
        for (int i = 0; i < 10; i++) {
            book.enter(i < 6 ? 0 : i % 4, 6000 * (i % 6), 6000 * (i % 6) + 5000, i % 2);
        }
        look("entries", book);
        for (int e = 0; e < 10; e++) {
            for (int role = 0; role < 3 && book.house(1) < 24; role++) {
                if (role < 2 || book.ofEntry(e, 0) != 3) {
                    book.mention(e, role);
                }
            }
            Pen.write(book, e % 2 == 0 ? "bob" : "mary");
        }
        look("mentions", book);
        int[][] joins = {{0, 4}, {1, 7}, {3, 8}, {6, 10}, {9, 13}, {8, 14}, {12, 20}, {15, 22}, {2, 5}};
        for (int[] pair : joins) {
            book.join(pair[0], pair[1], pair[0] % 10);
            look("joined " + pair[0], book);
        }
        book.part(0, 11);
        book.nick(0, 5);
        book.twins(0, 2);
        book.same(8, 1);
        book.age(6, 40);
        book.demand(0, 1, 40000);
        book.knock();
        look("not possible", book);
        book.undo();
        look("a step back", book);
        Check.due("digest twice", book.digest(), () -> book.digest());
        Check.end();
    }

    private static void look(String what, Parishbook book) {
        Check.due("isSound with " + what, true, () -> book.isSound());
        Check.due("digest with " + what, told(book), () -> book.digest());
    }

    private static long told(Parishbook book) {
        long d = 6511;
        for (int what = 0; what <= 11; what++) {
            d = d * 31 + book.house(what);
        }
        for (int e = 0; e < book.house(0); e++) {
            for (int what = 0; what <= 9; what++) {
                d = d * 31 + book.ofEntry(e, what);
            }
            d = (d * 31 + book.bound(e, false)) * 31 + book.bound(e, true);
        }
        for (int m = 0; m < book.house(1); m++) {
            for (int what = 0; what <= 8; what++) {
                d = d * 31 + book.ofMention(m, what);
            }
            d = d * 31 + book.loops(m);
            d = (d * 31 + book.tree(m).length()) * 31 + book.line(m, true).length();
        }
        d = (d * 31 + book.clash(true).length()) * 31 + book.clash(false).length();
        for (int m = 0; m < book.house(1); m++) {
            for (int n = m + 1; n < book.house(1); n++) {
                d = (d * 31 + book.degree(m, n, true)) * 31 + book.degree(m, n, false);
                d = (d * 31 + book.leave(m, n)) * 31 + book.common(m, n).length();
                d = d * 31 + book.likeness(m, n);
            }
        }
        for (int nth = 0; nth < book.house(3); nth++) {
            d = d * 31 + book.saying(nth).length();
        }
        d = (d * 31 + book.fault()) * 31 + book.key().length();
        return d * 31 + (book.isSound() ? 1 : 0);
    }
}
