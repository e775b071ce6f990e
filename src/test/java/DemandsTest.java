/** Each DEMAND of section 4 met to the day, and missed by a day, at both ends of the DAYS. */
public final class DemandsTest {
    private static final int LAST = 73413;
    private static final int BIRTH = 0;
    private static final int BAPTISM = 1;
    private static final int WEDDING = 2;
    private static final int DEATH = 3;

    private DemandsTest() {
    }

    public static void main(String[] args) {
        least();
        most();
        nothing();
        ofMothers();
        ofWidows();
        ofAges();
        ofPairs();
        told();
        ofSpans();
        Check.end();
    }

    interface Filled {
        void by(Parishbook book);
    }

    /** Whether days of so many entries, each of one day alone, are possible; a CLASH is of the two last ones. */
    private static void possible(String what, boolean want, Parishbook book, int first, int second) {
        Check.due(what + " is possible", want ? 1 : 0, () -> book.house(5));
        String clash = Math.min(first, second) + " " + Math.max(first, second);
        Check.due("clash of " + what, want ? "-" : clash, () -> book.clash(true));
        Check.due("wrong of " + what, want ? "-" : String.valueOf(Math.min(first, second)), () -> book.clash(false));
        for (int e : new int[] {first, second}) {
            int day = want ? book.ofEntry(e, 1) : -1;
            Check.due("earliest of " + what, day, () -> book.bound(e, false));
            Check.due("latest of " + what, day, () -> book.bound(e, true));
        }
        int apart = book.ofEntry(second, 1) - book.ofEntry(first, 1);
        Check.due("apart of " + what, want ? apart : -99999, () -> book.apart(first, second));
        Check.due("apart back of " + what, want ? -apart : -99999, () -> book.apart(second, first));
        Check.due(what + " is sound", true, () -> book.isSound());
    }

    /** Two entries of one day each, the second so many days behind the first; at the first DAYS or the last. */
    private static Parishbook fixed(int kind, int otherKind, int apart, boolean isLast, Filled rest) {
        Parishbook book = new Parishbook();
        int first = isLast ? LAST - Math.max(0, apart) : Math.max(0, -apart);
        book.enter(kind, first, first, 0);
        book.enter(otherKind, first + apart, first + apart, 1);
        rest.by(book);
        return book;
    }

    private static void at(String what, boolean want, int kind, int otherKind, int apart, Filled rest) {
        for (boolean isLast : new boolean[] {false, true}) {
            possible(what + " by " + apart, want, fixed(kind, otherKind, apart, isLast, rest), 0, 1);
        }
    }

    /** One person in a role of each of two entries. */
    private static Filled one(int role, int otherRole) {
        return book -> {
            book.mention(0, role);
            book.mention(1, otherRole);
            book.join(0, 1, 0);
        };
    }

    private static void leastOf(String what, int limit, int kind, int role, int otherKind, int otherRole) {
        at(what, true, kind, otherKind, limit, one(role, otherRole));
        at(what, true, kind, otherKind, limit + 1, one(role, otherRole));
        at(what, false, kind, otherKind, limit - 1, one(role, otherRole));
    }

    private static void least() {
        leastOf("birth, baptism", 0, BIRTH, 0, BAPTISM, 0);
        leastOf("birth, death", 0, BIRTH, 0, DEATH, 0);
        leastOf("baptism, death", 0, BAPTISM, 0, DEATH, 0);
        leastOf("groom, death", 0, WEDDING, 0, DEATH, 0);
        leastOf("bride, death", 0, WEDDING, 1, DEATH, 0);
        leastOf("birth, groom", 5110, BIRTH, 0, WEDDING, 0);
        leastOf("birth, bride", 5110, BIRTH, 0, WEDDING, 1);
        leastOf("birth, mother", 4380, BIRTH, 0, BIRTH, 2);
        leastOf("mother, death", 0, BIRTH, 2, DEATH, 0);
        leastOf("birth, father", 5110, BIRTH, 0, BIRTH, 1);
        leastOf("father, death", -300, BIRTH, 1, DEATH, 0);
        leastOf("birth, godfather", 2555, BIRTH, 0, BAPTISM, 1);
        leastOf("birth, godmother", 2555, BIRTH, 0, BAPTISM, 2);
    }

    /** A mother is 20075 days old at most; the same told from her child's birth. */
    private static void most() {
        at("birth, mother", true, BIRTH, BIRTH, 20075, one(0, 2));
        at("birth, mother", false, BIRTH, BIRTH, 20076, one(0, 2));
        at("mother, birth", true, BIRTH, BIRTH, -20075, one(2, 0));
        at("mother, birth", false, BIRTH, BIRTH, -20076, one(2, 0));
        at("mother, birth", true, BIRTH, BIRTH, -4380, one(2, 0));
        at("mother, birth", false, BIRTH, BIRTH, -4379, one(2, 0));
        at("father of any age", true, BIRTH, BIRTH, LAST, one(0, 1));
        at("a wedding at any age", true, BIRTH, WEDDING, LAST, one(0, 0));
        at("a death at any age", true, BIRTH, DEATH, LAST, one(0, 0));
        at("a death long behind a child's birth", true, BIRTH, DEATH, LAST, one(2, 0));
    }

    /** Roles of one person that ask nothing of each other: as far apart as can be, both ways. */
    private static void nothing() {
        int[][] free = {
            {BIRTH, 0, WEDDING, 2}, {BIRTH, 0, DEATH, 1}, {BIRTH, 1, BIRTH, 1}, {BIRTH, 1, BAPTISM, 0},
            {BIRTH, 2, BAPTISM, 0}, {BIRTH, 1, BAPTISM, 1}, {BIRTH, 2, BAPTISM, 2}, {BIRTH, 1, WEDDING, 0},
            {BIRTH, 2, WEDDING, 1}, {BIRTH, 1, DEATH, 1}, {BIRTH, 2, DEATH, 1}, {BAPTISM, 0, WEDDING, 0},
            {BAPTISM, 0, WEDDING, 1}, {BAPTISM, 0, WEDDING, 2}, {BAPTISM, 0, DEATH, 1}, {BAPTISM, 0, BAPTISM, 1},
            {BAPTISM, 0, BAPTISM, 2}, {BAPTISM, 1, BAPTISM, 1}, {BAPTISM, 1, DEATH, 0}, {BAPTISM, 2, DEATH, 0},
            {BAPTISM, 1, WEDDING, 0}, {WEDDING, 2, DEATH, 0}, {WEDDING, 0, DEATH, 1}, {WEDDING, 0, WEDDING, 0},
            {WEDDING, 1, WEDDING, 1}, {WEDDING, 0, WEDDING, 2}, {WEDDING, 2, WEDDING, 2}, {DEATH, 0, DEATH, 1},
            {DEATH, 1, DEATH, 1}
        };
        for (int[] row : free) {
            String what = "role " + row[1] + " of " + row[0] + ", role " + row[3] + " of " + row[2];
            at(what, true, row[0], row[2], LAST, one(row[1], row[3]));
            at(what, true, row[0], row[2], -LAST, one(row[1], row[3]));
        }
        at("two persons", true, BIRTH, DEATH, -LAST, book -> {
            book.mention(0, 0);
            book.mention(1, 0);
            book.part(0, 1);
        });
    }

    /** Two births of one mother: whichever is first, 270 days; at the same FROM the smaller number is first. */
    private static void ofMothers() {
        for (int apart : new int[] {270, 271, -270, -271}) {
            at("two births of a mother", true, BIRTH, BIRTH, apart, one(2, 2));
        }
        for (int apart : new int[] {269, -269, 2, 1, 0, -1}) {
            at("two births of a mother", false, BIRTH, BIRTH, apart, one(2, 2));
        }
        Parishbook book = Registers.of();
        book.enter(BIRTH, 500, 770, 0);
        book.enter(BIRTH, 500, 770, 0);
        book.mention(0, 2);
        book.mention(1, 2);
        book.join(0, 1, 0);
        Check.due("the smaller number is first", 500, () -> book.bound(0, true));
        Check.due("the greater number is second", 770, () -> book.bound(1, false));
        book.put(0, 501, 771);
        Check.due("the smaller FROM is first", 501, () -> book.bound(1, true));
        Check.due("the greater FROM is second", 770, () -> book.bound(0, false));
        book.put(1, 500, 500);
        book.put(0, 501, 769);
        Check.due("a day too few", -1, () -> book.bound(1, false));
        book.put(0, 501, 770);
        Check.due("just enough", 770, () -> book.bound(0, false));
    }

    /**
     * Weddings 0 and 1 of one person in the role, and death 2 of who has the other role of the first one;
     * the first wedding is free, the second one so many days behind the death.
     */
    private static Parishbook widow(int role, int apart, boolean isLast) {
        Parishbook book = new Parishbook();
        int death = isLast ? LAST - Math.max(0, apart) : Math.max(0, -apart);
        book.enter(WEDDING, 0, LAST, 0);
        book.enter(WEDDING, death + apart, death + apart, 1);
        book.enter(DEATH, death, death, 0);
        book.mention(0, role);
        book.mention(1, role);
        book.mention(0, 1 - role);
        book.mention(2, 0);
        book.join(0, 1, 0);
        book.join(2, 3, 0);
        return book;
    }

    private static void ofWidows() {
        for (boolean isLast : new boolean[] {false, true}) {
            possible("a widow after 270", true, widow(1, 270, isLast), 2, 1);
            possible("a widow after 269", false, widow(1, 269, isLast), 2, 1);
            possible("a widow after 0", false, widow(1, 0, isLast), 2, 1);
            possible("a widower after 1", true, widow(0, 1, isLast), 2, 1);
            possible("a widower on the day", true, widow(0, 0, isLast), 2, 1);
            possible("a widower after -1", false, widow(0, -1, isLast), 2, 1);
        }
        Parishbook same = widow(1, -LAST + 1, true);
        same.same(0, 1);
        Check.due("the same wedding twice is no second one", 1, () -> same.house(5));
        same.undo();
        Check.due("but as a second one it is", 0, () -> same.house(5));
        threeWeddings();
    }

    /** Of three weddings each one waits for the deaths of all ahead. */
    private static void threeWeddings() {
        Parishbook book = new Parishbook();
        for (int i = 0; i < 3; i++) {
            book.enter(WEDDING, i, LAST, 0);
            book.mention(i, 1);
            book.mention(i, 0);
        }
        for (int i = 0; i < 3; i++) {
            book.enter(DEATH, 1000 * i, LAST, 0);
            book.mention(3 + i, 0);
            book.join(2 * i + 1, 6 + i, 0);
        }
        book.join(0, 2, 0);
        book.join(2, 4, 0);
        int[][] want = {{3, 1, 270}, {3, 2, 540}, {4, 2, 270}, {0, 3, 0}, {1, 4, 0}, {2, 5, 0}, {1, 2, 270}};
        for (int[] row : want) {
            Check.due("apart " + row[0] + " " + row[1], row[2], () -> book.apart(row[0], row[1]));
        }
        Check.due("the first death", LAST - 540, () -> book.bound(3, true));
        Check.due("the last wedding", 1270, () -> book.bound(2, false));
        Check.due("the last death", 2000, () -> book.bound(5, false));
    }

    private static void aged(String what, boolean want, int kind, int role, int years, int apart) {
        at(what + ", " + years + " years", want, BIRTH, kind, apart, book -> {
            book.mention(0, 0);
            book.mention(1, role);
            book.join(0, 1, 0);
            book.age(1, years);
        });
    }

    private static void ofAges() {
        for (int years : new int[] {0, 1, 30, 99}) {
            aged("age of the dead", true, DEATH, 0, years, 365 * years);
            aged("age of the dead", false, DEATH, 0, years, 365 * years - 1);
            aged("age of the dead", true, DEATH, 0, years, 366 * (years + 1));
            aged("age of the dead", false, DEATH, 0, years, 366 * (years + 1) + 1);
        }
        aged("age of the groom", false, WEDDING, 0, 14, 5109);
        aged("age of the groom", true, WEDDING, 0, 14, 5110);
        aged("age of the groom", true, WEDDING, 0, 14, 5490);
        aged("age of the groom", false, WEDDING, 0, 14, 5491);
        aged("age of the groom", false, WEDDING, 0, 99, 36134);
        aged("age of the groom", true, WEDDING, 0, 99, 36600);
        aged("age of the groom", false, WEDDING, 0, 99, 36601);
        aged("a groom too young, whatever his age", false, WEDDING, 0, 12, 4758);
        aged("no age of the groom", true, WEDDING, 0, -1, LAST);
        aged("no age of the dead", true, DEATH, 0, -1, 0);
        aged("age not of the bride", true, WEDDING, 1, 99, 5110);
        aged("age not of a witness", true, WEDDING, 2, 99, -LAST);
        aged("age not of who is left", true, DEATH, 1, 99, -LAST);
    }

    private static void ofPairs() {
        for (int apart = -2; apart <= 2; apart++) {
            at("twins", apart >= -1 && apart <= 1, BIRTH, BIRTH, apart, book -> book.twins(0, 1));
            at("twins, the other way round", apart >= -1 && apart <= 1, BIRTH, BIRTH, apart, book -> book.twins(1, 0));
            for (int kind = 0; kind < 4; kind++) {
                at("the same of kind " + kind, apart == 0, kind, kind, apart, book -> book.same(0, 1));
                at("the same, the other way round", apart == 0, kind, kind, apart, book -> book.same(1, 0));
            }
            at("twins of one mother", apart >= -1 && apart <= 1, BIRTH, BIRTH, apart, book -> {
                one(2, 2).by(book);
                book.twins(0, 1);
            });
            at("one birth of a mother in both books", apart == 0, BIRTH, BIRTH, apart, book -> {
                one(2, 2).by(book);
                book.same(1, 0);
            });
        }
    }

    private static void told() {
        for (int least : new int[] {-40000, -39999, -1, 0, 1, 39999, 40000}) {
            at("told " + least, true, BIRTH, DEATH, least, book -> book.demand(0, 1, least));
            at("told " + least, true, BIRTH, DEATH, least + 1, book -> book.demand(0, 1, least));
            at("told " + least, false, BIRTH, DEATH, least - 1, book -> book.demand(0, 1, least));
            at("told back " + least, true, WEDDING, BAPTISM, -least, book -> book.demand(1, 0, least));
            at("told back " + least, false, WEDDING, BAPTISM, 1 - least, book -> book.demand(1, 0, least));
        }
        at("told both ways", true, BIRTH, BIRTH, 7, book -> {
            book.demand(0, 1, 7);
            book.demand(1, 0, -7);
        });
        at("told twice, the stronger one counts", false, BIRTH, BIRTH, 8, book -> {
            book.demand(0, 1, 9);
            book.demand(0, 1, 7);
        });
        at("told twice, the stronger one went", true, BIRTH, BIRTH, 8, book -> {
            book.demand(0, 1, 9);
            book.demand(0, 1, 7);
            book.undemand(0);
        });
    }

    /** A demand that the spans meet just at their ends. */
    private static void ofSpans() {
        Parishbook book = new Parishbook();
        book.enter(BIRTH, 100, 110, 0);
        book.enter(DEATH, 120, 130, 0);
        book.demand(0, 1, 30);
        int[] ends = {100, 100, 130, 130};
        for (int i = 0; i < 4; i++) {
            int own = i;
            Check.due("end " + i, ends[i], () -> book.bound(own / 2, own % 2 == 1));
        }
        Check.due("apart", 30, () -> book.apart(0, 1));
        Check.due("apart back", -30, () -> book.apart(1, 0));
        book.demand(0, 1, 31);
        Check.due("a day more", 0, () -> book.house(5));
        book.undo();
        book.demand(1, 0, -10);
        Check.due("a day too few", 0, () -> book.house(5));
        book.undo();
        book.undo();
        book.demand(1, 0, -10);
        Check.due("as near as the spans are", 10, () -> book.apart(0, 1));
        Check.due("the last day of the first one", 110, () -> book.bound(0, false));
        Check.due("the first day of the second one", 120, () -> book.bound(1, true));
        book.put(0, 0, LAST);
        book.put(1, 0, LAST);
        Check.due("the first day of all", 0, () -> book.bound(0, false));
        Check.due("the last day of all", LAST, () -> book.bound(0, true));
        Check.due("far apart by spans", -LAST, () -> book.apart(0, 1));
    }
}
