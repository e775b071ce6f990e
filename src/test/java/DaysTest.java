/** Promises 2 to 8: day, date, feast, and the slip. */
public final class DaysTest {
    private static final int LAST = 73413;
    private static Parishbook book = new Parishbook();
    private static int calls = 0;

    private DaysTest() {
    }

    public static void main(String[] args) {
        days();
        allAround();
        dates();
        feasts();
        lastDays();
        slips();
        slipsAtTheEdges();
        slipsSignBySign();
        Check.end();
    }

    /** An object is asked 512 times at most; no slip has more than 30 calls. */
    private static Parishbook book() {
        calls++;
        if (calls > 480) {
            calls = 0;
            book = new Parishbook();
        }
        return book;
    }

    private static void day(int want, int style, int d, int m, int y) {
        Check.due("day(" + style + ", " + d + ", " + m + ", " + y + ")", want, () -> book().day(style, d, m, y));
    }

    private static void days() {
        day(0, 0, 1, 1, 1600);
        day(59, 0, 29, 2, 1600);
        day(366, 0, 1, 1, 1601);
        day(73413, 0, 31, 12, 1800);
        day(-1, 0, 31, 12, 1599);
        day(-1, 0, 1, 1, 1801);
        day(36583, 0, 28, 2, 1700);
        day(-1, 0, 29, 2, 1700);
        day(36584, 0, 1, 3, 1700);
        day(0, 1, 22, 12, 1599);
        day(-1, 1, 21, 12, 1599);
        day(10, 1, 1, 1, 1600);
        day(36594, 1, 29, 2, 1700);
        day(73413, 1, 19, 12, 1800);
        day(-1, 1, 20, 12, 1800);
        day(0, 2, 22, 12, 1599);
        day(10, 2, 1, 1, 1599);
        day(93, 2, 24, 3, 1599);
        day(94, 2, 25, 3, 1600);
        day(-1, 2, 24, 3, 1800);
        day(36594, 2, 29, 2, 1699);
        day(-1, 2, 29, 2, 1700);
        for (int style = 0; style <= 2; style++) {
            day(-1, style, 0, 5, 1700);
            day(-1, style, 32, 5, 1700);
            day(-1, style, 31, 4, 1700);
            day(-1, style, 1, 0, 1700);
            day(-1, style, 1, 13, 1700);
            day(-1, style, -1, -1, -1);
            day(-1, style, Integer.MAX_VALUE, 1, 1700);
            day(-1, style, 1, Integer.MAX_VALUE, 1700);
            day(-1, style, 1, 1, Integer.MAX_VALUE);
            day(-1, style, Integer.MIN_VALUE, Integer.MIN_VALUE, Integer.MIN_VALUE);
        }
        Check.argument("day of style 3", () -> book().day(3, 1, 1, 1700));
        Check.argument("day of style -1", () -> book().day(-1, 1, 1, 1700));
    }

    /** Days and months that there are and that there are not, in years at the edges and of all lengths. */
    private static void allAround() {
        Model model = new Model();
        for (int y : new int[] {1598, 1599, 1600, 1601, 1699, 1700, 1701, 1752, 1799, 1800, 1801}) {
            for (int m = -1; m <= 14; m++) {
                for (int d = -1; d <= 34; d++) {
                    for (int style = 0; style <= 2; style++) {
                        day(model.day(style, d, m, y), style, d, m, y);
                    }
                }
            }
        }
    }

    private static void date(String want, int style, int day) {
        Check.due("date(" + style + ", " + day + ")", want, () -> book().date(style, day));
    }

    private static void dates() {
        date("1.1.1600", 0, 0);
        date("22.12.1599", 1, 0);
        date("22.12.1599", 2, 0);
        date("31.12.1599", 1, 9);
        date("1.1.1600", 1, 10);
        date("1.1.1599", 2, 10);
        date("24.3.1599", 2, 93);
        date("25.3.1600", 2, 94);
        date("31.12.1600", 0, 365);
        date("1.1.1601", 0, 366);
        date("29.2.1700", 1, 36594);
        date("29.2.1699", 2, 36594);
        date("31.12.1800", 0, 73413);
        date("19.12.1800", 1, 73413);
        Check.argument("date of style 3", () -> book().date(3, 0));
        Check.argument("date of style -1", () -> book().date(-1, 0));
        Check.argument("date of -1", () -> book().date(0, -1));
        Check.argument("date of 73414", () -> book().date(0, 73414));
        Model model = new Model();
        for (int style = 0; style <= 2; style++) {
            for (int day = 0; day <= Model.LAST; day++) {
                Model.Date date = model.dateOf(style, day);
                date(date.d() + "." + date.m() + "." + date.y(), style, day);
                day(day, style, date.d(), date.m(), date.y());
            }
        }
    }

    private static void feast(String date, int style, int which, int year) {
        Check.due("feast(" + style + ", " + which + ", " + year + ")", date,
                () -> book().date(style, book().feast(style, which, year)));
    }

    private static void feasts() {
        feast("2.4.1600", 0, 0, 1600);
        feast("11.4.1700", 0, 0, 1700);
        feast("31.3.1700", 1, 0, 1700);
        feast("13.4.1800", 0, 0, 1800);
        feast("19.4.1609", 0, 0, 1609);
        feast("15.4.1666", 1, 0, 1666);
        feast("25.4.1666", 0, 0, 1666);
        feast("20.5.1700", 0, 1, 1700);
        feast("30.5.1700", 0, 2, 1700);
        feast("2.2.1700", 1, 3, 1700);
        feast("25.3.1700", 1, 4, 1700);
        feast("11.11.1700", 0, 5, 1700);
        feast("25.12.1700", 0, 6, 1700);
        Check.due("Christmas 1800, old", -1, () -> book().feast(1, 6, 1800));
        Check.argument("feast of style 2", () -> book().feast(2, 0, 1700));
        Check.argument("feast of style -1", () -> book().feast(-1, 0, 1700));
        Check.argument("feast -1", () -> book().feast(0, -1, 1700));
        Check.argument("feast 7", () -> book().feast(0, 7, 1700));
        Check.argument("feast of 1599", () -> book().feast(0, 0, 1599));
        Check.argument("feast of 1801", () -> book().feast(0, 0, 1801));
        Model model = new Model();
        for (int year = 1600; year <= 1800; year++) {
            int y = year;
            for (int which = 0; which <= 6; which++) {
                int w = which;
                Check.due("feast(0, " + w + ", " + y + ")", model.feast(0, w, y), () -> book().feast(0, w, y));
                Check.due("feast(1, " + w + ", " + y + ")", model.feast(1, w, y), () -> book().feast(1, w, y));
            }
        }
    }

    /** Feasts at the end of the DAYS: one of them is on none. */
    private static void lastDays() {
        feast("25.12.1800", 0, 6, 1800);
        feast("11.11.1800", 1, 5, 1800);
        feast("25.12.1799", 1, 6, 1799);
        feast("2.2.1600", 1, 3, 1600);
        feast("25.12.1600", 1, 6, 1600);
        feast("23.3.1600", 1, 0, 1600);
        Check.due("the first feast, new", 32, () -> book().feast(0, 3, 1600));
        Check.due("the first feast, old", 42, () -> book().feast(1, 3, 1600));
        Check.due("the last feast, new", LAST - 6, () -> book().feast(0, 6, 1800));
        Check.due("the last feast, old", LAST - 38, () -> book().feast(1, 5, 1800));
        Check.due("on no DAY", -1, () -> book().feast(1, 6, 1800));
    }

    /** Writes a slip from its text, and looks at FAULT and at what it tells. */
    private static void slip(String row, int fault, int told) {
        Parishbook book = new Parishbook();
        for (int i = 0; i < row.length(); i++) {
            int count = i + 1;
            int sign = "0123456789.nol".indexOf(row.charAt(i));
            Check.due("type " + row, count, () -> book.type(sign));
        }
        Check.due("fault of " + row, fault, () -> book.fault());
        Check.due("told of " + row, told, () -> book.told());
        Check.due("wipe of " + row, row.length(), () -> book.wipe());
        Check.due("wipe again", 0, () -> book.wipe());
    }

    private static void slips() {
        slip("1.1.1600n", -1, 0);
        slip("01.01.1600n", -1, 0);
        slip("22.12.1599o", -1, 0);
        slip("1.1.1599l", -1, 10);
        slip("29.2.1700n", 99, -1);
        slip("29.2.1700o", -1, 36594);
        slip("00.1.1700n", 99, -1);
        slip("1.99.1700n", 99, -1);
        slip("1.1.9999l", 99, -1);
        slip("", 0, -1);
        slip("1", 1, -1);
        slip("1.", 2, -1);
        slip("12.1", 4, -1);
        slip("12.11.160", 9, -1);
        slip("12.11.1600", 10, -1);
        slip("n", 0, -1);
        slip(".", 0, -1);
        slip("123", 2, -1);
        slip("1n", 1, -1);
        slip("1..", 2, -1);
        slip("1.l", 2, -1);
        slip("1.123", 4, -1);
        slip("1.12n", 4, -1);
        slip("1.12.n", 5, -1);
        slip("1.12.170.", 8, -1);
        slip("1.12.170n", 8, -1);
        slip("1.12.17000", 9, -1);
        slip("1.12.1700.", 9, -1);
        slip("1.12.1700nn", 10, -1);
        slip("11.12.1700n123", 11, -1);
        slip("nnnnnnnnnnnnnn", 0, -1);
        Parishbook book = new Parishbook();
        Check.argument("type -1", () -> book.type(-1));
        Check.argument("type 14", () -> book.type(14));
        for (int i = 1; i <= 14; i++) {
            int count = i;
            Check.due("sign " + i, count, () -> book.type(1));
        }
        Check.state("a fifteenth sign", () -> book.type(1));
        Check.argument("type 14 on a full slip", () -> book.type(14));
        Check.due("wipe of a full slip", 14, () -> book.wipe());
    }

    /** Dates of the first and the last DAY and of those beside them, by each letter. */
    private static void slipsAtTheEdges() {
        slip("31.12.1800n", -1, LAST);
        slip("1.1.1801n", 99, -1);
        slip("31.12.1599n", 99, -1);
        slip("19.12.1800o", -1, LAST);
        slip("20.12.1800o", 99, -1);
        slip("22.12.1599o", -1, 0);
        slip("21.12.1599o", 99, -1);
        slip("19.12.1800l", -1, LAST);
        slip("20.12.1800l", 99, -1);
        slip("22.12.1599l", -1, 0);
        slip("21.12.1599l", 99, -1);
        slip("24.3.1599l", -1, 93);
        slip("25.3.1599l", 99, -1);
        slip("24.3.1800l", 99, -1);
        slip("25.3.1800l", -1, 73144);
        slip("0.1.1700n", 99, -1);
        slip("31.1.1700n", -1, 36555);
        slip("32.1.1700n", 99, -1);
        slip("30.2.1700o", 99, -1);
        slip("1.0.1700n", 99, -1);
        slip("1.12.1700n", -1, 36859);
        slip("1.13.1700n", 99, -1);
        slip("1.1.0000n", 99, -1);
        slip("99.99.9999l", 99, -1);
        slip("00.00.0000o", 99, -1);
        slip("9.9.1699n", -1, 36411);
        slip("09.9.1699n", -1, 36411);
        slip("9.09.1699n", -1, 36411);
        slip("09.09.1699n", -1, 36411);
        slip("009.9.1699n", 2, -1);
        slip("9.009.1699n", 4, -1);
        slip("9.9.01699n", 8, -1);
    }

    /** Each sign at each place of a form with one or two digits, alone and with more behind it. */
    private static void slipsSignBySign() {
        String signs = "0123456789.nol";
        for (String form : new String[] {"1.2.1634n", "12.3.1634o", "1.02.1634l", "31.12.1699n"}) {
            for (int place = 0; place <= form.length(); place++) {
                for (int sign = 0; sign < signs.length(); sign++) {
                    String ahead = form.substring(0, place) + signs.charAt(sign);
                    String behind = place < form.length() ? form.substring(place + 1) : "";
                    for (String row : new String[] {ahead, ahead + behind}) {
                        Model model = new Model();
                        model.slip = row;
                        slip(row, model.fault(), model.told());
                    }
                }
            }
        }
    }
}
