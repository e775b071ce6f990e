import java.math.BigInteger;

/** Promise 51: the checksum of rows that are written out here, counted without an end and then wrapped. */
public final class ChecksumTest {
    private static final int LAST = 73413;
    private static boolean isBelow = false;
    private static boolean isAbove = false;

    private ChecksumTest() {
    }

    public static void main(String[] args) {
        emptyOne();
        oneEntry();
        twoMentions();
        notPossible();
        sayings();
        slipAndPen();
        knocks();
        Check.due("there were checksums below 0", true, () -> isBelow);
        Check.due("there were checksums above 0", true, () -> isAbove);
        Check.end();
    }

    /** The checksum of a row of numbers, its 64 lowest bits read as a long. */
    private static void sum(String what, Parishbook book, int[]... rows) {
        BigInteger d = BigInteger.valueOf(6511);
        for (int[] row : rows) {
            for (int v : row) {
                d = d.multiply(BigInteger.valueOf(31)).add(BigInteger.valueOf(v));
            }
        }
        boolean isTooLong = d.bitLength() > 64;
        long due = d.longValue();
        isBelow = isBelow || due < 0;
        isAbove = isAbove || due > 0;
        Check.due("the checksum is too long for a long without wrapping, " + what, true, () -> isTooLong);
        Check.due("digest of " + what, due, () -> book.digest());
        Check.due("digest once more of " + what, due, () -> book.digest());
    }

    private static int[] row(int... values) {
        return values;
    }

    /** Lengths of clash as CLASH and WRONG ("-" and "-"). */
    private static final int[] NO_CLASH = {1, 1};
    /** fault() of an empty slip, the length of key() of a mark ("+"), and isSound(). */
    private static final int[] END = {0, 1, 1};

    private static void emptyOne() {
        int[] house = {0, 0, 0, 0, 0, 1, 0, 0, 0, 0, 0, 0};
        sum("the empty one", new Parishbook(), house, NO_CLASH, END);
    }

    private static void oneEntry() {
        Parishbook book = new Parishbook();
        book.enter(3, 5, LAST, 1);
        sum("one entry", book, row(1, 0, 0, 0, 0, 1, 1, 0, 0, 0, 0, 0),
                row(3, 5, LAST, 1, -1, 0, 0, -1, -1, -1, 5, LAST), NO_CLASH, END);
        book.age(0, 99);
        book.close(0);
        sum("one closed entry with an age", book, row(1, 0, 0, 0, 0, 1, 3, 0, 0, 0, 0, 0),
                row(3, 5, LAST, 1, 99, 1, 0, -1, -1, -1, 5, LAST), NO_CLASH, END);
    }

    /** A child and its mother, of one name. */
    private static void twoMentions() {
        Parishbook book = new Parishbook();
        book.enter(0, 7, 8, 0);
        Pen.write(book, "ann");
        book.mention(0, 0);
        book.mention(0, 2);
        Pen.write(book, "");
        int[] entry = {0, 7, 8, 0, -1, 0, 2, 0, -1, 1, 7, 8};
        int[] child = {0, 0, 0, 0, -1, 1, 0, 1, 3, 0, "0(.,1)".length(), "0".length()};
        int[] mother = {0, 2, 1, 2, -1, -1, 1, 1, 3, 0, "1".length(), "1".length()};
        int[] pair = {1, 1, 2, "1/4".length(), 3};
        sum("a child and its mother", book, row(1, 2, 2, 0, 0, 1, 3, 0, 0, 0, 0, 0), entry, child, mother,
                NO_CLASH, pair, END);
        book.join(0, 1, 0);
        book.nick(1, 1);
        sum("two refusals", book, row(1, 2, 2, 0, 0, 1, 3, 2, 0, 0, 0, 0), entry, child, mother, NO_CLASH, pair, END);
    }

    private static void notPossible() {
        Parishbook book = new Parishbook();
        for (int i = 0; i < 3; i++) {
            book.enter(0, i, i, i % 2);
        }
        book.demand(2, 0, 40000);
        book.twins(0, 2);
        book.same(0, 1);
        sum("one that is not possible", book, row(3, 0, 0, 0, 1, 0, 6, 0, 0, 1, 1, 0),
                row(0, 0, 0, 0, -1, 0, 0, -1, -1, -1, -1, -1), row(0, 1, 1, 1, -1, 0, 0, -1, -1, -1, -1, -1),
                row(0, 2, 2, 0, -1, 0, 0, -1, -1, -1, -1, -1), row("0 1".length(), "0".length()), END);
        for (int i = 0; i < 2; i++) {
            book.undo();
        }
        sum("a clash of other entries", book, row(3, 0, 0, 0, 1, 0, 4, 0, 0, 0, 0, 0),
                row(0, 0, 0, 0, -1, 0, 0, -1, -1, -1, -1, -1), row(0, 1, 1, 1, -1, 0, 0, -1, -1, -1, -1, -1),
                row(0, 2, 2, 0, -1, 0, 0, -1, -1, -1, -1, -1), row("0 2".length(), "0".length()), END);
    }

    /** Deaths 0 and 1 with mentions 0 to 3: 1 and 3 are joined, 0 and 2 are parted, nicks of 0 and 2. */
    private static void sayings() {
        Parishbook book = new Parishbook();
        for (int e = 0; e < 2; e++) {
            book.enter(3, 0, LAST, 0);
            Pen.write(book, e == 0 ? "a" : "bbbbbb");
            book.mention(e, 0);
            Pen.write(book, "");
            book.mention(e, 1);
        }
        book.join(3, 1, 9);
        book.part(2, 0);
        book.nick(0, 2);
        int[] none = {-1, -1, 0, 1, 0};
        sum("sayings", book, row(2, 4, 3, 2, 0, 1, 8, 0, 0, 0, 0, 1),
                row(3, 0, LAST, 0, -1, 0, 2, 0, 1, -1, 0, LAST), row(3, 0, LAST, 0, -1, 0, 2, 2, 3, -1, 0, LAST),
                row(0, 0, 0, 0, -1, -1, 0, 1, 1, 0, 1, 1), row(0, 1, 1, 0, -1, -1, 0, 2, 0, 0, 1, 1),
                row(1, 0, 2, 0, -1, -1, 0, 1, 6, 0, 1, 1), row(1, 1, 1, 0, -1, -1, 0, 2, 0, 0, 1, 1),
                NO_CLASH, none, row(-1, -1, 0, 1, 1), none, none, row(0, 0, 2, "1/2".length(), 0), none,
                row("1=3:9".length(), "0#2".length()), END);
    }

    /** Of these the place of the FAULT and the length of the KEY count. */
    private static void slipAndPen() {
        Parishbook book = new Parishbook();
        int[] house = {0, 0, 0, 0, 0, 1, 0, 0, 0, 0, 0, 0};
        Pen.write(book, "bcd");
        sum("a key of three", book, house, NO_CLASH, row(0, 3, 1));
        for (int sign : new int[] {1, 10, 1, 10, 1, 6, 0}) {
            book.type(sign);
        }
        sum("a slip with a sign missing", book, house, NO_CLASH, row(7, 3, 1));
        book.type(0);
        book.type(11);
        sum("a slip without a fault", book, house, NO_CLASH, row(-1, 3, 1));
        Pen.write(book, "bcdlmr");
        book.wipe();
        for (int sign : new int[] {0, 10, 1, 10, 1, 6, 0, 0, 13}) {
            book.type(sign);
        }
        sum("a slip that is no date", book, house, NO_CLASH, row(99, 4, 1));
    }

    private static void knocks() {
        Parishbook book = new Parishbook();
        for (int count = 1; count <= 60; count++) {
            book.knock();
            sum(count + " knocks", book, row(0, 0, 0, 0, 0, 1, 0, 0, count, 0, 0, 0), NO_CLASH, END);
        }
    }
}
