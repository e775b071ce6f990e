/** Promises 44 to 46: alive, household and gap. */
public final class LifeTest {
    private static final int LAST = 73413;

    private LifeTest() {
    }

    public static void main(String[] args) {
        alive();
        households();
        childEnteredFirst();
        gaps();
        aliveAtTheEdges();
        onTheFirstOfJuly();
        whoHasWed();
        gapsAtTheEdges();
        Check.end();
    }

    private static void alive(int want, Parishbook book, int mention, int day) {
        Check.due("alive " + mention + " on " + day, want, () -> book.alive(mention, day));
    }

    private static void alive() {
        Parishbook book = new Parishbook();
        book.enter(0, 1000, 2000, 0);
        book.enter(3, 5000, 6000, 0);
        book.mention(0, 0);
        book.mention(1, 0);
        book.mention(0, 1);
        book.mention(1, 1);
        alive(0, book, 0, 999);
        alive(1, book, 0, 1000);
        alive(1, book, 0, 2000);
        alive(1, book, 0, LAST);
        alive(1, book, 1, 0);
        alive(1, book, 1, 6000);
        alive(0, book, 1, 6001);
        book.join(0, 1, 0);
        alive(0, book, 1, 999);
        alive(1, book, 1, 1000);
        alive(1, book, 1, 1999);
        alive(2, book, 0, 2000);
        alive(2, book, 0, 5000);
        alive(1, book, 0, 5001);
        alive(1, book, 0, 6000);
        alive(0, book, 0, 6001);
        alive(1, book, 2, 0);
        alive(1, book, 3, LAST);
        book.demand(0, 1, 4500);
        alive(1, book, 0, 1400);
        alive(2, book, 0, 1500);
        alive(2, book, 0, 5500);
        Check.index("alive of 4", () -> book.alive(4, 0));
        Check.index("alive of -1", () -> book.alive(-1, -1));
        Check.argument("alive on -1", () -> book.alive(0, -1));
        Check.argument("alive on 73414", () -> book.alive(0, LAST + 1));
        book.demand(1, 0, 0);
        alive(-1, book, 0, 2000);
        alive(-1, book, 3, 2000);
        Check.argument("alive on -1, not possible", () -> book.alive(0, -1));
    }

    private static void household(String want, Parishbook book, int entry, int year) {
        Check.due("household " + entry + " in " + year, want, () -> book.household(entry, year));
    }

    /** 0 has wed 1; 3 and 6 and 9 are children of both, 12 of the bride alone; 9 has wed. */
    private static void households() {
        Parishbook book = new Parishbook();
        book.enter(2, 0, LAST, 0);
        book.mention(0, 0);
        book.mention(0, 1);
        book.mention(0, 2);
        int[] from = {Calendar.first(1650), Calendar.first(1640), Calendar.first(1660), Calendar.first(1645)};
        for (int i = 0; i < 4; i++) {
            int entry = book.enter(0, from[i], from[i] + 180, 0);
            book.mention(entry, 0);
            int father = book.mention(entry, 1);
            int mother = book.mention(entry, 2);
            book.join(0, i == 3 ? mother : father, 0);
            book.join(1, mother, 0);
            if (i < 3) {
                Check.due("father of child " + i, 0, () -> book.person(father));
            }
        }
        household("0 1", book, 0, 1639);
        household("0 1 6", book, 0, 1640);
        household("0 1 6", book, 0, 1649);
        household("0 1 3 6", book, 0, 1650);
        household("0 1 3 6 9", book, 0, 1660);
        household("0 1 3 6 9", book, 0, 1800);
        book.enter(2, 0, LAST, 0);
        book.mention(5, 1);
        book.mention(5, 2);
        book.join(15, 9, 0);
        household("0 1 3 6", book, 0, 1660);
        book.join(16, 6, 0);
        household("0 1 3 6", book, 0, 1660);
        household("9", book, 5, 1660);
        household("", book, 5, 1659);
        book.enter(3, 0, Calendar.first(1670), 0);
        book.mention(6, 0);
        book.join(17, 0, 0);
        household("0 1 3 6", book, 0, 1670);
        household("1 3 6", book, 0, 1671);
        book.put(6, 0, Calendar.first(1655));
        household("-", book, 0, 1654);
        household("-", book, 5, 1659);
        Check.index("household of 7", () -> book.household(7, 1700));
        Check.index("household of -1", () -> book.household(-1, 1));
        Check.argument("household of a birth", () -> book.household(1, 1700));
        Check.argument("household in 1599", () -> book.household(0, 1599));
        Check.argument("household in 1801", () -> book.household(0, 1801));
        Check.due("possible", 0, () -> book.house(5));
    }

    private static void childEnteredFirst() {
        Parishbook book = new Parishbook();
        book.enter(0, 0, 0, 0);
        book.mention(0, 0);
        book.mention(0, 1);
        book.mention(0, 2);
        book.enter(2, 0, LAST, 0);
        book.mention(1, 1);
        household("3", book, 1, 1700);
        book.mention(1, 0);
        household("4 3", book, 1, 1700);
        book.join(3, 2, 0);
        household("4 2", book, 1, 1700);
        book.join(4, 1, 0);
        household("1 2 0", book, 1, 1700);
    }

    /** The first day of July, new style, of a year. */
    private static final class Calendar {
        private Calendar() {
        }

        static int first(int year) {
            return new Parishbook().day(0, 1, 7, year);
        }
    }

    private static void gap(String want, Parishbook book, int side, int least) {
        Check.due("gap of " + side + " from " + least + " on", want, () -> book.gap(side, least));
    }

    private static void gaps() {
        Parishbook book = new Parishbook();
        gap("", book, 0, 1);
        enter(book, 15, 3, 1610, 0);
        gap("", book, 0, 1);
        enter(book, 1, 5, 1610, 0);
        gap("1610-4 1", book, 0, 1);
        gap("", book, 0, 2);
        enter(book, 31, 12, 1609, 0);
        gap("1610-1 2", book, 0, 1);
        gap("1610-1 2", book, 0, 2);
        gap("", book, 0, 3);
        enter(book, 1, 5, 1611, 1);
        gap("", book, 1, 1);
        gap("", book, 0, 3);
        enter(book, 30, 6, 1611, 1);
        gap("", book, 1, 1);
        enter(book, 1, 12, 1620, 1);
        enter(book, 1, 2, 1621, 1);
        gap("1611-7 113", book, 1, 1);
        gap("1611-7 113", book, 1, 113);
        gap("", book, 1, 114);
        enter(book, 1, 4, 1630, 0);
        gap("1610-1 2", book, 0, 1);
        gap("1610-6 238", book, 0, 3);
        enter(book, 31, 12, 1800, 0);
        gap("1630-5 2047", book, 0, 239);
        gap("1630-5 2047", book, 0, 999);
        for (int wrong : new int[] {-1, 2, Integer.MAX_VALUE}) {
            Check.argument("gap of book " + wrong, () -> book.gap(wrong, 1));
        }
        for (int wrong : new int[] {-1, 0, 1000, Integer.MIN_VALUE}) {
            Check.argument("gap of " + wrong, () -> book.gap(0, wrong));
        }
    }

    private static void enter(Parishbook book, int d, int m, int y, int side) {
        book.enter(1, book.day(0, d, m, y), LAST, side);
    }

    /** To the day: EARLIEST and LATEST of birth and death, at the first and the last DAYS too. */
    private static void aliveAtTheEdges() {
        int[][] spans = {{0, 0, LAST, LAST}, {0, 10, LAST - 10, LAST}, {500, 500, 500, 500}, {LAST, LAST, LAST, LAST},
            {0, 0, 0, 0}, {0, LAST, 0, LAST}};
        for (int[] span : spans) {
            Parishbook book = new Parishbook();
            book.enter(0, span[0], span[1], 0);
            book.enter(3, span[2], span[3], 0);
            book.mention(0, 0);
            book.mention(1, 0);
            book.join(0, 1, 0);
            for (int day : new int[] {0, 1, 9, 10, 11, 499, 500, 501, LAST - 11, LAST - 10, LAST - 9, LAST - 1, LAST}) {
                int want = day < span[0] || day > span[3] ? 0 : span[1] <= day && day <= span[2] ? 2 : 1;
                alive(want, book, 0, day);
                alive(want, book, 1, day);
            }
        }
        Parishbook nobody = Registers.of(1, 2);
        for (int m = 0; m < 6; m++) {
            alive(1, nobody, m, 0);
            alive(1, nobody, m, LAST);
        }
        Parishbook roles = Registers.of(0, 3);
        roles.put(0, 100, 100);
        roles.put(1, 50, 50);
        alive(1, roles, 1, 0);
        alive(1, roles, 2, LAST);
        alive(1, roles, 4, LAST);
        alive(0, roles, 0, 99);
        alive(1, roles, 0, 100);
        alive(1, roles, 3, 50);
        alive(0, roles, 3, 51);
    }

    /** Wedding 0 with 0 and 1; a child 3 of both, born and dead on one day each. */
    private static Parishbook child(int born, int dead) {
        Parishbook book = Registers.of(2, 0, 3);
        book.put(1, born, born);
        book.put(2, dead, dead);
        book.join(0, 4, 0);
        book.join(1, 5, 0);
        book.join(3, 6, 0);
        return book;
    }

    private static void onTheFirstOfJuly() {
        for (int year : new int[] {1600, 1601, 1700, 1752, 1799, 1800}) {
            int day = Calendar.first(year);
            household("0 1 3", child(day, day), 0, year);
            household("0 1 3", child(day - 1, day + 1), 0, year);
            household("0 1", child(day + 1, day + 1), 0, year);
            household("0 1", child(day - 1, day - 1), 0, year);
        }
        int july = Calendar.first(1700);
        household("0 1", child(july, july), 0, 1600);
        household("0 1", child(july, july), 0, 1699);
        household("0 1", child(july, july), 0, 1701);
        household("0 1", child(july, july), 0, 1800);
        Parishbook spans = child(july, july);
        spans.put(1, july, july + 40);
        spans.put(2, july, july + 50);
        household("0 1 3", spans, 0, 1700);
        spans.put(2, 0, july - 1);
        household("-", spans, 0, 1700);
        household("-", spans, 0, 1600);
    }

    /** A child that has wed, as groom or as bride, is left out; a witness is not; some or all may be missing. */
    private static void whoHasWed() {
        int july = Calendar.first(1700);
        for (int role = 0; role < 3; role++) {
            Parishbook book = child(july, LAST);
            book.enter(2, 0, LAST, 0);
            int mention = book.mention(3, role);
            book.join(3, mention, 0);
            household(role == 2 ? "0 1 3" : "0 1", book, 0, 1730);
            household(role == 2 ? "" : "3", book, 3, 1730);
        }
        Parishbook empty = new Parishbook();
        empty.enter(2, 0, LAST, 0);
        household("", empty, 0, 1700);
        empty.mention(0, 2);
        household("", empty, 0, 1700);
        empty.mention(0, 1);
        household("1", empty, 0, 1700);
        Parishbook half = child(july, LAST);
        half.unsay(1);
        household("0 1", half, 0, 1730);
        half.undo();
        half.unsay(0);
        household("0 1", half, 0, 1730);
        Parishbook first = new Parishbook();
        first.enter(2, 0, LAST, 0);
        first.mention(0, 0);
        first.enter(2, 0, LAST, 0);
        first.mention(1, 0);
        first.mention(1, 1);
        first.enter(0, 0, 0, 0);
        Registers.mentionAll(first, 2);
        first.join(1, 4, 0);
        first.join(2, 5, 0);
        household("1 2 3", first, 1, 1730);
        first.join(0, 3, 0);
        household("1 2", first, 1, 1730);
        household("0", first, 0, 1730);
    }

    private static void gapsAtTheEdges() {
        Parishbook all = new Parishbook();
        enter(all, 1, 1, 1600, 0);
        enter(all, 31, 12, 1800, 0);
        gap("1600-2 2410", all, 0, 1);
        gap("1600-2 2410", all, 0, 999);
        gap("", all, 1, 1);
        enter(all, 31, 12, 1600, 0);
        gap("1600-2 10", all, 0, 10);
        gap("1601-1 2399", all, 0, 11);
        enter(all, 1, 12, 1799, 0);
        gap("1601-1 2387", all, 0, 11);
        enter(all, 30, 11, 1601, 0);
        gap("1601-12 2376", all, 0, 11);
        gap("1600-2 10", all, 0, 10);
        lengths();
    }

    /** Gaps of just as many months as are asked for, of one more and of one less. */
    private static void lengths() {
        for (int months : new int[] {1, 2, 11, 12, 13, 998, 999, 1000}) {
            Parishbook book = new Parishbook();
            int behind = 1610 * 12 + 11 + months + 1;
            enter(book, 31, 12, 1610, 1);
            enter(book, 1, behind % 12 + 1, behind / 12, 1);
            String want = "1611-1 " + months;
            gap(want, book, 1, Math.min(999, months));
            gap(want, book, 1, 1);
            if (months < 999) {
                gap("", book, 1, months + 1);
            }
            gap("", book, 0, 1);
        }
        Parishbook months = new Parishbook();
        enter(months, 1, 2, 1700, 0);
        enter(months, 28, 2, 1700, 0);
        gap("", months, 0, 1);
        enter(months, 1, 3, 1700, 0);
        gap("", months, 0, 1);
        enter(months, 31, 1, 1700, 0);
        gap("", months, 0, 1);
        enter(months, 30, 11, 1699, 0);
        gap("1699-12 1", months, 0, 1);
        months.put(4, 0, LAST);
        gap("1600-2 1199", months, 0, 1);
        enter(months, 1, 4, 1700, 1);
        gap("1600-2 1199", months, 0, 1);
        gap("", months, 1, 1);
    }
}
