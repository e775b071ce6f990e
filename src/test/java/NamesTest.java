/** Promises 9, 10, 23 and 28: pen, key, nick and likeness. */
public final class NamesTest {
    private NamesTest() {
    }

    public static void main(String[] args) {
        pens();
        keys();
        likenesses();
        nicks();
        Check.end();
    }

    private static void pens() {
        Parishbook book = new Parishbook();
        Check.due("a pen at first", "+", () -> book.key());
        String name = "anselm";
        for (int i = 0; i <= 6; i++) {
            int length = i;
            Check.due("pen of " + i, i, () -> Pen.write(book, name.substring(0, length)));
        }
        Check.due("pen of z", 6, () -> book.pen(26, 26, 26, 26, 26, 26));
        for (int i = 0; i < 6; i++) {
            for (int wrong : new int[] {-1, 27, Integer.MAX_VALUE, Integer.MIN_VALUE}) {
                int[] row = {2, 12, 1, 19, 9, 21};
                row[i] = wrong;
                Check.argument("pen with " + wrong, () -> book.pen(row[0], row[1], row[2], row[3], row[4], row[5]));
            }
        }
        for (int i = 0; i < 5; i++) {
            int[] row = {2, 12, 1, 19, 9, 21};
            row[i] = 0;
            Check.argument("pen with a gap", () -> book.pen(row[0], row[1], row[2], row[3], row[4], row[5]));
        }
        Check.due("the pen as it was", "4", () -> book.key());
        Check.due("a mark", 0, () -> Pen.write(book, ""));
        Check.due("key of a mark", "+", () -> book.key());
    }

    private static void key(String want, String name) {
        Parishbook book = new Parishbook();
        Pen.write(book, name);
        Check.due("key of " + name, want, () -> book.key());
    }

    private static void keys() {
        key("78", "mary");
        key("76", "molly");
        key("0", "a");
        key("0", "hoy");
        key("078", "anmer");
        key("7", "mm");
        key("77", "mom");
        key("1", "bp");
        key("11", "bap");
        key("5387", "tgrn");
        key("1234", "bfcsdl");
        key("5678", "dlmrbf");
        key("1678", "plnr");
        key("0123", "abfcsd");
        key("43", "zx");
        key("47", "sen");
        String[] groups = {"aehiouy", "bp", "fvw", "cgjkqx", "sz", "dt", "l", "mn", "r"};
        for (int sound = 0; sound < groups.length; sound++) {
            for (char letter : groups[sound].toCharArray()) {
                key(String.valueOf(sound), String.valueOf(letter));
            }
        }
    }

    /** A register with one mention of each name, none of one entry twice the same role. */
    private static Parishbook named(String... names) {
        Parishbook book = new Parishbook();
        for (int i = 0; i < names.length; i++) {
            if (i % 3 == 0) {
                book.enter(0, 0, 73413, 0);
            }
            Pen.write(book, names[i]);
            book.mention(i / 3, i % 3);
        }
        return book;
    }

    private static void likeness(int want, Parishbook book, int one, int two) {
        Check.due("likeness " + one + " " + two, want, () -> book.likeness(one, two));
        Check.due("likeness " + two + " " + one, want, () -> book.likeness(two, one));
    }

    private static void likenesses() {
        Parishbook book = named("mary", "mary", "nora", "molly", "", "", "polly");
        likeness(3, book, 0, 1);
        likeness(3, book, 0, 0);
        likeness(2, book, 0, 2);
        likeness(0, book, 0, 3);
        likeness(0, book, 4, 5);
        likeness(0, book, 4, 4);
        likeness(0, book, 0, 4);
        book.nick(0, 3);
        likeness(1, book, 0, 3);
        likeness(1, book, 2, 3);
        likeness(0, book, 6, 3);
        likeness(3, book, 0, 1);
        Check.index("likeness of -1", () -> book.likeness(-1, 0));
        Check.index("likeness of 7", () -> book.likeness(7, 0));
        Check.index("likeness with -1", () -> book.likeness(0, -1));
        Check.index("likeness with 7", () -> book.likeness(0, 7));
    }

    private static void nicks() {
        Parishbook book = named("b", "f", "c", "s", "d", "l", "", "bob", "p");
        Check.index("nick of 9", () -> book.nick(9, 0));
        Check.index("nick with -1", () -> book.nick(0, -1));
        Check.due("nick with a mark", -9, () -> book.nick(0, 6));
        Check.due("nick of a mark", -9, () -> book.nick(6, 0));
        Check.due("nick of one", -9, () -> book.nick(0, 0));
        Check.due("nick with the same key", -9, () -> book.nick(0, 8));
        Check.due("refused", 4, () -> book.house(7));
        Check.due("nicks", 0, () -> book.house(11));
        for (int i = 1; i <= 5; i++) {
            int other = i;
            Check.due("nick " + i, i, () -> book.nick(0, other));
            Check.due("nick again", -9, () -> book.nick(0, other));
            Check.due("nick back", -9, () -> book.nick(other, 8));
        }
        Check.due("nick of key 11", 6, () -> book.nick(7, 1));
        Check.due("nicks", 6, () -> book.house(11));
        Check.state("a seventh pair", () -> book.nick(2, 3));
        Check.state("no refusal with six pairs", () -> book.nick(0, 6));
        Check.due("undo of a nick", 7, () -> book.undo());
        likeness(0, book, 7, 1);
    }
}
