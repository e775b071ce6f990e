/** Promises 9, 10, 23 and 28: pen, key, nick and likeness. */
public final class NamesTest {
    private NamesTest() {
    }

    public static void main(String[] args) {
        pens();
        keys();
        likenesses();
        nicks();
        keysAtTheEdges();
        likenessesAtTheEdges();
        nicksOfKeys();
        markAtFirst();
        Check.end();
    }

    private static void pens() {
        Parishbook book = new Parishbook();
        Check.due("a pen at first", "+", () -> book.key());
        String name = "anselm";
        for (int i = 0; i <= 6; i++) {
            int length = i;
            Check.due("pen of " + i, i, () -> Pen.write(book, name.substring(0, length)));
        }
        Check.due("pen of z", 6, () -> book.pen(26, 26, 26, 26, 26, 26));
        for (int i = 0; i < 6; i++) {
            for (int wrong : new int[] {-1, 27, Integer.MAX_VALUE, Integer.MIN_VALUE}) {
                int[] row = {2, 12, 1, 19, 9, 21};
                row[i] = wrong;
                Check.argument("pen with " + wrong, () -> book.pen(row[0], row[1], row[2], row[3], row[4], row[5]));
            }
        }
        for (int i = 0; i < 5; i++) {
            int[] row = {2, 12, 1, 19, 9, 21};
            row[i] = 0;
            Check.argument("pen with a gap", () -> book.pen(row[0], row[1], row[2], row[3], row[4], row[5]));
        }
        Check.due("the pen as it was", "4", () -> book.key());
        Check.due("a mark", 0, () -> Pen.write(book, ""));
        Check.due("key of a mark", "+", () -> book.key());
    }

    private static void key(String want, String name) {
        Parishbook book = new Parishbook();
        Pen.write(book, name);
        Check.due("key of " + name, want, () -> book.key());
    }

    private static void keys() {
        key("78", "mary");
        key("76", "molly");
        key("0", "a");
        key("0", "hoy");
        key("078", "anmer");
        key("7", "mm");
        key("77", "mom");
        key("1", "bp");
        key("11", "bap");
        key("5387", "tgrn");
        key("1234", "bfcsdl");
        key("5678", "dlmrbf");
        key("1678", "plnr");
        key("0123", "abfcsd");
        key("43", "zx");
        key("47", "sen");
        String[] groups = {"aehiouy", "bp", "fvw", "cgjkqx", "sz", "dt", "l", "mn", "r"};
        for (int sound = 0; sound < groups.length; sound++) {
            for (char letter : groups[sound].toCharArray()) {
                key(String.valueOf(sound), String.valueOf(letter));
            }
        }
    }

    /** A register with one mention of each name, none of one entry twice the same role. */
    private static Parishbook named(String... names) {
        Parishbook book = new Parishbook();
        for (int i = 0; i < names.length; i++) {
            if (i % 3 == 0) {
                book.enter(0, 0, 73413, 0);
            }
            Pen.write(book, names[i]);
            book.mention(i / 3, i % 3);
        }
        return book;
    }

    private static void likeness(int want, Parishbook book, int one, int two) {
        Check.due("likeness " + one + " " + two, want, () -> book.likeness(one, two));
        Check.due("likeness " + two + " " + one, want, () -> book.likeness(two, one));
    }

    private static void likenesses() {
        Parishbook book = named("mary", "mary", "nora", "molly", "", "", "polly");
        likeness(3, book, 0, 1);
        likeness(3, book, 0, 0);
        likeness(2, book, 0, 2);
        likeness(0, book, 0, 3);
        likeness(0, book, 4, 5);
        likeness(0, book, 4, 4);
        likeness(0, book, 0, 4);
        book.nick(0, 3);
        likeness(1, book, 0, 3);
        likeness(1, book, 2, 3);
        likeness(0, book, 6, 3);
        likeness(3, book, 0, 1);
        Check.index("likeness of -1", () -> book.likeness(-1, 0));
        Check.index("likeness of 7", () -> book.likeness(7, 0));
        Check.index("likeness with -1", () -> book.likeness(0, -1));
        Check.index("likeness with 7", () -> book.likeness(0, 7));
    }

    private static void nicks() {
        Parishbook book = named("b", "f", "c", "s", "d", "l", "", "bob", "p");
        Check.index("nick of 9", () -> book.nick(9, 0));
        Check.index("nick with -1", () -> book.nick(0, -1));
        Check.due("nick with a mark", -9, () -> book.nick(0, 6));
        Check.due("nick of a mark", -9, () -> book.nick(6, 0));
        Check.due("nick of one", -9, () -> book.nick(0, 0));
        Check.due("nick with the same key", -9, () -> book.nick(0, 8));
        Check.due("refused", 4, () -> book.house(7));
        Check.due("nicks", 0, () -> book.house(11));
        for (int i = 1; i <= 5; i++) {
            int other = i;
            Check.due("nick " + i, i, () -> book.nick(0, other));
            Check.due("nick again", -9, () -> book.nick(0, other));
            Check.due("nick back", -9, () -> book.nick(other, 8));
        }
        Check.due("nick of key 11", 6, () -> book.nick(7, 1));
        Check.due("nicks", 6, () -> book.house(11));
        Check.state("a seventh pair", () -> book.nick(2, 3));
        Check.state("no refusal with six pairs", () -> book.nick(0, 6));
        Check.due("undo of a nick", 7, () -> book.undo());
        likeness(0, book, 7, 1);
    }

    /** Four sounds at most, of six letters; the first one counts though it is 0, no other 0 does. */
    private static void keysAtTheEdges() {
        key("123", "bvg");
        key("1236", "bvgl");
        key("1236", "bvglm");
        key("1236", "bvglmr");
        key("0123", "ebvg");
        key("0123", "ebvglm");
        key("01", "eb");
        key("01", "hehehb");
        key("0", "aeiouy");
        key("1", "bbbbbb");
        key("1", "bpbpbp");
        key("11", "baaaab");
        key("111", "bababa");
        key("1131", "babxpb");
        key("4", "zzzzzz");
        key("8787", "rmrmrm");
    }

    private static void likenessesAtTheEdges() {
        Parishbook book = named("a", "a", "e", "b", "zzzzzz", "zzzzzz", "zzzzzy", "", "");
        likeness(3, book, 0, 1);
        likeness(3, book, 0, 0);
        likeness(2, book, 0, 2);
        likeness(0, book, 0, 3);
        likeness(3, book, 4, 5);
        likeness(2, book, 4, 6);
        likeness(0, book, 4, 2);
        for (int other = 0; other < 9; other++) {
            likeness(0, book, 7, other);
        }
        Parishbook more = named("bvg", "bvgl", "bvglm", "bvglr", "ann", "anna", "bann", "nna");
        likeness(0, more, 0, 1);
        likeness(2, more, 1, 2);
        likeness(2, more, 2, 3);
        likeness(2, more, 4, 5);
        likeness(0, more, 5, 6);
        likeness(0, more, 5, 7);
    }

    /** NICKS are of KEYS, whatever the names; they are not passed on, and hide no nearer likeness. */
    private static void nicksOfKeys() {
        Parishbook book = named("bob", "pap", "fay", "sue", "e", "eb", "b");
        Check.due("nick", 1, () -> book.nick(0, 2));
        Check.due("another nick", 2, () -> book.nick(2, 3));
        likeness(1, book, 1, 2);
        likeness(1, book, 2, 3);
        likeness(0, book, 0, 3);
        likeness(2, book, 0, 1);
        likeness(3, book, 2, 2);
        likeness(0, book, 6, 2);
        Check.due("nick of the key 0 with the key 01", 3, () -> book.nick(4, 5));
        likeness(1, book, 4, 5);
        likeness(0, book, 4, 6);
        Check.due("nick of the key 1 with the key 11", 4, () -> book.nick(6, 1));
        likeness(1, book, 6, 0);
        likeness(0, book, 6, 5);
        book.undo();
        book.undo();
        likeness(0, book, 6, 0);
        likeness(0, book, 4, 5);
        likeness(1, book, 1, 2);
    }

    /** The PEN holds a MARK until it is told a name, and again when it is told none. */
    private static void markAtFirst() {
        Parishbook book = new Parishbook();
        book.enter(0, 0, 0, 0);
        book.mention(0, 0);
        Pen.write(book, "ann");
        book.mention(0, 1);
        Pen.write(book, "");
        book.mention(0, 2);
        int[] letters = {0, 3, 0};
        for (int m = 0; m < 3; m++) {
            int own = m;
            Check.due("letters of " + m, letters[m], () -> book.ofMention(own, 8));
            likeness(m == 1 ? 3 : 0, book, m, m);
        }
        likeness(0, book, 0, 2);
        likeness(0, book, 0, 1);
        Check.due("nick of the first mark", -9, () -> book.nick(0, 1));
        Check.due("nick of two marks", -9, () -> book.nick(0, 2));
        Check.due("match of marks", 0, () -> book.match(0, 0, 0, 2, 1));
    }
}
