/** Promises 31 to 33, each DEMAND of the document, and what promise 50 asks of days. */
public final class TruthTest {
    private static final int LAST = 73413;
    private static final int MIDDLE = 35000;

    private TruthTest() {
    }

    public static void main(String[] args) {
        ofOnePerson();
        ofMothers();
        ofWidows();
        ofAges();
        ofPairs();
        bounds();
        clashes();
        slowLoops();
        fewestAndFirst();
        allTen();
        justPossible();
        manyDemands();
        Check.end();
    }

    /** Two entries, free but for the demands, with one person in a role of each. */
    private static Parishbook two(int kind, int role, int otherKind, int otherRole) {
        Parishbook book = new Parishbook();
        book.enter(kind, 0, LAST, 0);
        book.enter(otherKind, 0, LAST, 0);
        book.mention(0, role);
        book.mention(1, otherRole);
        book.join(0, 1, 0);
        return book;
    }

    private static void apart(String what, int want, Parishbook book, int first, int second) {
        Check.due(what, want, () -> book.apart(first, second));
    }

    /** What is demanded at least from the first entry to the second one, and back. */
    private static void demanded(String what, Parishbook book, int there, int back) {
        apart(what, there, book, 0, 1);
        apart(what + " back", back, book, 1, 0);
        apart(what + " of itself", 0, book, 0, 0);
        Check.due(what + " is sound", true, () -> book.isSound());
    }

    private static void ofOnePerson() {
        demanded("birth, baptism", two(0, 0, 1, 0), 0, -LAST);
        demanded("birth, death", two(0, 0, 3, 0), 0, -LAST);
        demanded("baptism, death", two(1, 0, 3, 0), 0, -LAST);
        demanded("groom, death", two(2, 0, 3, 0), 0, -LAST);
        demanded("bride, death", two(2, 1, 3, 0), 0, -LAST);
        demanded("witness, death", two(2, 2, 3, 0), -LAST, -LAST);
        demanded("birth, groom", two(0, 0, 2, 0), 5110, -LAST);
        demanded("birth, bride", two(0, 0, 2, 1), 5110, -LAST);
        demanded("birth, witness", two(0, 0, 2, 2), -LAST, -LAST);
        demanded("birth, mother", two(0, 0, 0, 2), 4380, -20075);
        demanded("mother, death", two(0, 2, 3, 0), 0, -LAST);
        demanded("birth, father", two(0, 0, 0, 1), 5110, -LAST);
        demanded("father, death", two(0, 1, 3, 0), -300, -LAST);
        demanded("birth, godfather", two(0, 0, 1, 1), 2555, -LAST);
        demanded("birth, godmother", two(0, 0, 1, 2), 2555, -LAST);
        demanded("birth, who is left", two(0, 0, 3, 1), -LAST, -LAST);
        demanded("baptism, groom", two(1, 0, 2, 0), -LAST, -LAST);
        demanded("two fathers", two(0, 1, 0, 1), -LAST, -LAST);
    }

    private static void ofMothers() {
        demanded("two births of a mother", two(0, 2, 0, 2), 270, -LAST);
        Parishbook book = two(0, 2, 0, 2);
        book.put(0, 1, LAST);
        demanded("the later from behind", book, -LAST, 270);
        book.put(1, 1, LAST);
        demanded("from as soon", book, 270, 1 - LAST);
        book.twins(1, 0);
        demanded("twins", book, -1, -1);
        Parishbook other = new Parishbook();
        other.enter(0, 0, LAST, 0);
        other.enter(0, 0, LAST, 1);
        other.mention(0, 2);
        other.mention(1, 2);
        other.join(0, 1, 0);
        other.same(0, 1);
        demanded("one birth in both books", other, 0, 0);
    }

    /** Two weddings of one person, and a death of the spouse of the first one. */
    private static Parishbook widow(int role, int otherBook) {
        Parishbook book = new Parishbook();
        book.enter(2, 0, LAST, 0);
        book.enter(2, 0, LAST, otherBook);
        book.enter(3, 0, LAST, 0);
        book.mention(0, role);
        book.mention(1, role);
        book.mention(0, 1 - role);
        book.mention(2, 0);
        book.mention(1, 1 - role);
        book.join(0, 1, 0);
        book.join(2, 3, 0);
        return book;
    }

    private static void ofWidows() {
        apart("a widower", 0, widow(0, 0), 2, 1);
        Parishbook widow = widow(1, 0);
        apart("a widow", 270, widow, 2, 1);
        apart("nothing of the first wedding", -LAST, widow(0, 0), 2, 0);
        apart("two weddings", 270, widow, 0, 1);
        widow.put(0, 1, LAST);
        apart("the second wedding is first then", -LAST, widow, 2, 1);
        apart("the second spouse is no widower", 1 - LAST, widow, 2, 0);
        Parishbook same = widow(1, 1);
        same.same(0, 1);
        apart("one wedding in both books", -LAST, same, 2, 1);
        Parishbook second = widow(1, 0);
        second.unsay(1);
        second.join(3, 4, 0);
        apart("the second spouse dies", -LAST, second, 2, 1);
        apart("who dies after", 0, second, 1, 2);
        Parishbook witness = new Parishbook();
        witness.enter(2, 0, LAST, 0);
        witness.enter(2, 0, LAST, 0);
        witness.enter(3, 0, LAST, 0);
        witness.mention(0, 1);
        witness.mention(1, 1);
        witness.mention(0, 2);
        witness.mention(2, 0);
        witness.join(0, 1, 0);
        witness.join(2, 3, 0);
        apart("a witness dies", -LAST, witness, 2, 1);
        ofWidowsInOtherOrders();
        clashOfWidows();
    }

    /** What a first wedding asks of the second one and of the death is between these two, the first one apart. */
    private static void clashOfWidows() {
        Parishbook book = widow(1, 0);
        book.put(0, 0, 0);
        book.put(1, 1269, 1269);
        book.put(2, 1000, 1000);
        clash("1 2", "1", book);
        book.put(1, 1270, 1270);
        clash("-", "-", book);
        book.put(0, 1271, 1271);
        clash("0 2", "0", book);
    }

    private static void ofWidowsInOtherOrders() {
        Parishbook book = new Parishbook();
        book.enter(3, 0, LAST, 0);
        book.enter(2, 0, LAST, 0);
        book.enter(2, 0, LAST, 0);
        book.mention(0, 0);
        book.mention(1, 0);
        book.mention(1, 1);
        book.mention(2, 1);
        book.mention(2, 2);
        book.join(0, 1, 0);
        apart("not yet a widow", -LAST, book, 0, 2);
        book.join(2, 4, 0);
        apart("a widow as a witness", -LAST, book, 0, 2);
        book.undo();
        book.join(2, 3, 0);
        apart("a widow, the death entered first", 270, book, 0, 2);
        apart("only that the second one is after", 270 - LAST, book, 0, 1);
        Parishbook alone = new Parishbook();
        alone.enter(2, 0, LAST, 0);
        alone.enter(2, 0, LAST, 0);
        alone.enter(3, 0, LAST, 0);
        alone.mention(0, 1);
        alone.mention(1, 1);
        alone.mention(2, 1);
        alone.join(0, 1, 0);
        apart("a wedding without a groom, a death of nobody", -LAST, alone, 2, 1);
    }

    private static void ofAges() {
        Parishbook death = two(0, 0, 3, 0);
        death.age(1, 30);
        demanded("age of the dead", death, 365 * 30, -366 * 31);
        death.age(1, 0);
        demanded("age 0 of the dead", death, 0, -366);
        death.age(1, -1);
        demanded("no age of the dead", death, 0, -LAST);
        Parishbook groom = two(0, 0, 2, 0);
        groom.age(1, 20);
        demanded("age of the groom", groom, 365 * 20, -366 * 21);
        Parishbook bride = two(0, 0, 2, 1);
        bride.age(1, 20);
        demanded("age not of the bride", bride, 5110, -LAST);
        Parishbook left = two(0, 0, 3, 1);
        left.age(1, 20);
        demanded("age not of who is left", left, -LAST, -LAST);
    }

    private static void ofPairs() {
        Parishbook book = new Parishbook();
        book.enter(0, 0, LAST, 0);
        book.enter(0, 0, LAST, 1);
        book.twins(0, 1);
        demanded("twins", book, -1, -1);
        book.undo();
        book.same(1, 0);
        demanded("the same", book, 0, 0);
        book.undo();
        book.demand(0, 1, -7);
        demanded("told", book, -7, -LAST);
        book.demand(0, 1, -9);
        demanded("told less", book, -7, -LAST);
        book.demand(1, 0, 7);
        demanded("told both ways", book, -7, 7);
    }

    private static void bound(int entry, int earliest, int latest, Parishbook book) {
        Check.due("earliest " + entry, earliest, () -> book.bound(entry, false));
        Check.due("latest " + entry, latest, () -> book.bound(entry, true));
    }

    private static void bounds() {
        Parishbook book = new Parishbook();
        book.enter(0, MIDDLE, MIDDLE + 100, 0);
        book.enter(1, 0, LAST, 0);
        book.enter(3, 0, MIDDLE + 50, 0);
        bound(0, MIDDLE, MIDDLE + 100, book);
        bound(1, 0, LAST, book);
        book.demand(0, 1, 10);
        bound(1, MIDDLE + 10, LAST, book);
        book.demand(1, 2, 20);
        bound(0, MIDDLE, MIDDLE + 20, book);
        bound(1, MIDDLE + 10, MIDDLE + 30, book);
        bound(2, MIDDLE + 30, MIDDLE + 50, book);
        apart("by both", 30, book, 0, 2);
        apart("by spans", -50, book, 2, 0);
        Check.index("bound of 3", () -> book.bound(3, true));
        Check.index("bound of -1", () -> book.bound(-1, true));
        Check.index("apart of 3", () -> book.apart(3, 0));
        Check.index("apart with -1", () -> book.apart(0, -1));
        book.put(2, 0, MIDDLE + 29);
        bound(0, -1, -1, book);
        bound(1, -1, -1, book);
        apart("not possible", -99999, book, 0, 2);
        apart("not possible of itself", -99999, book, 1, 1);
        Check.due("possible", 0, () -> book.house(5));
        book.put(2, 0, MIDDLE + 30);
        bound(2, MIDDLE + 30, MIDDLE + 30, book);
        Check.due("possible", 1, () -> book.house(5));
    }

    /** Demands that lead round by little, with spans that are wide; ways over each entry. */
    private static void slowLoops() {
        for (int middle = 0; middle < 3; middle++) {
            int one = (middle + 1) % 3;
            int two = (middle + 2) % 3;
            Parishbook book = new Parishbook();
            book.enter(0, 0, LAST, 0);
            book.enter(1, 0, LAST, 0);
            book.enter(2, 0, LAST, 0);
            book.demand(one, middle, 1000);
            book.demand(middle, two, 100);
            apart("over " + middle, 1100, book, one, two);
            apart("over " + middle + " back", -LAST, book, two, one);
            bound(one, 0, LAST - 1100, book);
            bound(middle, 1000, LAST - 100, book);
            bound(two, 1100, LAST, book);
            book.demand(two, one, -1100);
            apart("all fast", -1100, book, two, one);
            clash("-", "-", book);
            book.demand(two, one, -1099);
            clash("0 1 2", "0", book);
            book.demand(two, middle, -99);
            clash(Math.min(middle, two) + " " + Math.max(middle, two), String.valueOf(Math.min(middle, two)), book);
        }
    }

    private static void clash(String clash, String wrong, Parishbook book) {
        Check.due("clash", clash, () -> book.clash(true));
        Check.due("wrong", wrong, () -> book.clash(false));
        Check.due("sound", true, () -> book.isSound());
    }

    private static void clashes() {
        Parishbook book = new Parishbook();
        for (int i = 0; i < 7; i++) {
            book.enter(0, MIDDLE, MIDDLE + 10, 0);
        }
        clash("-", "-", book);
        book.demand(5, 6, 11);
        clash("5 6", "5", book);
        book.demand(4, 6, 11);
        clash("4 6", "6", book);
        book.demand(0, 1, 4);
        book.demand(1, 2, 4);
        book.demand(2, 3, 4);
        clash("4 6", "0 6", book);
        book.undemand(0);
        book.undemand(0);
        clash("0 1 2 3", "0", book);
        book.demand(3, 1, -7);
        clash("1 2 3", "1", book);
        book.demand(6, 5, 11);
        clash("5 6", "1 5", book);
        book.put(1, 0, LAST);
        clash("5 6", "1 5", book);
        book.undemand(3);
        clash("5 6", "0 5", book);
    }

    private static Parishbook wide(int count) {
        Parishbook book = new Parishbook();
        for (int e = 0; e < count; e++) {
            book.enter(0, 0, LAST, e % 2);
        }
        return book;
    }

    /** Two entries that can not be true together. */
    private static void apart(Parishbook book, int one, int other) {
        book.demand(one, other, 1);
        book.demand(other, one, 0);
    }

    /** The fewest entries go ahead; of as few, the smallest first number, then the smallest second one. */
    private static void fewestAndFirst() {
        Parishbook book = wide(10);
        apart(book, 9, 8);
        clash("8 9", "8", book);
        apart(book, 7, 9);
        clash("7 9", "9", book);
        apart(book, 0, 6);
        clash("0 6", "0 9", book);
        Parishbook rows = wide(10);
        apart(rows, 1, 2);
        apart(rows, 0, 9);
        clash("0 9", "0 1", rows);
        apart(rows, 0, 8);
        clash("0 8", "0 1", rows);
        Parishbook three = wide(10);
        three.demand(0, 1, 1);
        three.demand(1, 2, 1);
        three.demand(2, 0, 0);
        clash("0 1 2", "0", three);
        apart(three, 9, 8);
        clash("8 9", "0 8", three);
        fivePairs();
    }

    /** Five pairs, each of one day less than its demand: one of each pair is wrong. */
    private static void fivePairs() {
        Parishbook book = new Parishbook();
        for (int e = 0; e < 10; e++) {
            book.enter(0, 10 * e, 10 * e, 0);
        }
        String[] wrongs = {"8", "6 8", "4 6 8", "2 4 6 8", "0 2 4 6 8"};
        for (int i = 0; i < 5; i++) {
            int first = 8 - 2 * i;
            book.demand(first, first + 1, 11);
            clash(first + " " + (first + 1), wrongs[i], book);
        }
        book.demand(1, 2, 11);
        clash("0 1", "0 2 4 6 8", book);
        book.undo();
        book.demand(0, 9, 91);
        clash("0 1", "0 2 4 6 8", book);
        book.undemand(4);
        clash("0 9", "2 4 6 9", book);
        book.put(9, 91, 91);
        clash("2 3", "2 4 6", book);
    }

    /** All ten lead round, and by one day it is possible; no nine of them are impossible alone. */
    private static void allTen() {
        Parishbook book = wide(10);
        for (int e = 0; e < 8; e += 2) {
            book.same(e, e + 1);
        }
        for (int e = 1; e < 9; e += 2) {
            book.demand(e, e + 1, 10);
        }
        book.demand(8, 9, 10);
        book.demand(9, 0, -50);
        clash("-", "-", book);
        apart("round by all", 50, book, 0, 9);
        apart("and back", -50, book, 9, 0);
        bound(0, 0, LAST - 50, book);
        bound(9, 50, LAST, book);
        book.undemand(5);
        book.demand(9, 0, -49);
        clash("0 1 2 3 4 5 6 7 8 9", "0", book);
        bound(5, -1, -1, book);
    }

    /** Entries that meet a demand to the day are in no clash of others. */
    private static void justPossible() {
        Parishbook book = new Parishbook();
        int[] days = {0, 5, LAST - 5, LAST, 100, 105};
        for (int day : days) {
            book.enter(1, day, day, 0);
        }
        book.demand(0, 1, 5);
        book.demand(2, 3, 5);
        clash("-", "-", book);
        book.demand(4, 5, 6);
        clash("4 5", "4", book);
        book.undo();
        book.demand(5, 4, -4);
        clash("4 5", "4", book);
        book.put(4, 100, 101);
        clash("-", "-", book);
        bound(4, 101, 101, book);
        book.demand(1, 5, 100);
        clash("-", "-", book);
        book.demand(1, 5, 101);
        clash("1 5", "1", book);
    }

    /** More demands than one a pair of entries next to each other; the last pair is the one that clashes. */
    private static void manyDemands() {
        Parishbook book = wide(8);
        book.enter(3, 0, LAST, 0);
        book.enter(2, 0, LAST, 0);
        book.twins(0, 2);
        book.twins(0, 4);
        book.twins(2, 4);
        book.twins(4, 6);
        book.same(0, 1);
        book.same(2, 3);
        book.same(4, 5);
        book.same(6, 7);
        for (int e = 0; e < 5; e++) {
            book.demand(e, 7 - e % 2, -3 - e);
        }
        clash("-", "-", book);
        book.demand(9, 8, 40000);
        apart("the last pair", 40000, book, 9, 8);
        book.put(8, 0, 39999);
        clash("8 9", "8", book);
        book.put(8, 0, 40000);
        bound(9, 0, 0, book);
        bound(8, 40000, 40000, book);
    }
}
