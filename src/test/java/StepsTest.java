/** Promises 25, 26 and 49: undo, knock and house. */
public final class StepsTest {
    private static final int LAST = 73413;

    private StepsTest() {
    }

    public static void main(String[] args) {
        eight();
        each();
        kept();
        knocks();
        house();
        Check.end();
    }

    private static void eight() {
        Parishbook book = new Parishbook();
        Check.state("no step", () -> book.undo());
        for (int i = 0; i < 9; i++) {
            book.enter(0, i, LAST, 0);
            int count = Math.min(8, i + 1);
            Check.due("steps", count, () -> book.house(6));
        }
        for (int left = 7; left >= 0; left--) {
            int count = left;
            Check.due("undo", count, () -> book.undo());
            Check.due("entries", count + 1, () -> book.house(0));
        }
        Check.state("the ninth step went for good", () -> book.undo());
        book.enter(0, 7, LAST, 0);
        Check.due("steps again", 1, () -> book.house(6));
        Check.due("undo again", 0, () -> book.undo());
        Check.due("entries", 1, () -> book.house(0));
    }

    /** After each kind of step, an undo brings the digest back, as far as it is not of the steps. */
    private static void each() {
        Parishbook book = new Parishbook();
        Pen.write(book, "mary");
        for (int i = 0; i < 6; i++) {
            book.enter(i / 2 * 2 % 6 == 4 ? 3 : i / 2 * 2, 1000 * i, 1000 * i + 30000, i % 2);
        }
        book.mention(0, 0);
        book.mention(1, 0);
        Pen.write(book, "bob");
        book.mention(2, 0);
        book.mention(3, 0);
        book.join(2, 3, 5);
        book.demand(0, 1, 3);
        Check.Call[] calls = {
            () -> book.enter(1, 5, 6, 0), () -> book.mention(4, 0), () -> book.put(0, 7, 8),
            () -> book.age(2, 30), () -> book.close(5), () -> book.twins(0, 1), () -> book.same(2, 3),
            () -> book.demand(2, 3, 99), () -> book.undemand(0), () -> book.join(0, 2, 3),
            () -> book.part(0, 1), () -> book.unsay(0), () -> book.nick(0, 2),
            () -> book.match(0, 0, 2, 0, 1)
        };
        book.match(0, 0, 3, 0, 1);
        for (int i = 0; i < calls.length; i++) {
            Check.due("steps ahead of call " + i, 8, () -> book.house(6));
            String before = all(book);
            String answer = Check.told(calls[i]);
            Check.due("call " + i + " throws", false, () -> answer.startsWith("throws") || answer.equals("-9"));
            boolean isMatch = i == calls.length - 1;
            Check.due("call " + i + " changed something", !isMatch, () -> !all(book).equals(before));
            Check.due("undo of call " + i, 7, () -> book.undo());
            Check.due("all after undo of call " + i, before, () -> all(book));
            book.match(0, 0, 3, 0, 1);
        }
    }

    private static String all(Parishbook book) {
        StringBuilder text = new StringBuilder();
        for (int what = 0; what <= 11; what++) {
            text.append(what == 6 ? 0 : book.house(what)).append(' ');
        }
        for (int e = 0; e < book.house(0); e++) {
            for (int what = 0; what <= 9; what++) {
                text.append(book.ofEntry(e, what)).append(' ');
            }
            for (int f = 0; f < book.house(0); f++) {
                text.append(book.apart(e, f)).append(' ');
            }
        }
        for (int m = 0; m < book.house(1); m++) {
            text.append(book.mentions(m)).append('/').append(book.ofMention(m, 8)).append(' ');
            for (int n = 0; n < book.house(1); n++) {
                text.append(book.likeness(m, n)).append(' ');
            }
        }
        for (int nth = 0; nth < book.house(3); nth++) {
            text.append(book.saying(nth)).append(' ');
        }
        return text.toString();
    }

    /** What no undo brings back, and what is no step. */
    private static void kept() {
        Parishbook book = new Parishbook();
        book.enter(0, 0, LAST, 0);
        book.mention(0, 0);
        book.mention(0, 1);
        Pen.write(book, "ann");
        book.type(3);
        book.knock();
        Check.due("join refused", -9, () -> book.join(0, 1, 0));
        Check.due("nick refused", -9, () -> book.nick(0, 1));
        Check.due("steps", 3, () -> book.house(6));
        Check.argument("a throw", () -> book.enter(9, 0, 0, 0));
        Check.state("a throw", () -> book.mention(0, 1));
        Check.index("a throw", () -> book.close(1));
        Check.due("steps", 3, () -> book.house(6));
        book.undo();
        book.undo();
        book.undo();
        Check.due("the pen", "07", () -> book.key());
        Check.due("the slip", 1, () -> book.fault());
        Check.due("refused", 2, () -> book.house(7));
        Check.due("knocked", 1, () -> book.house(8));
        Check.due("entries", 0, () -> book.house(0));
        Check.state("none is left", () -> book.undo());
    }

    private static void knocks() {
        Parishbook book = new Parishbook();
        for (int i = 1; i <= 5; i++) {
            Check.due("knock", i, () -> book.knock());
        }
        Check.due("knocks", 5, () -> book.house(8));
        Check.due("no steps", 0, () -> book.house(6));
    }

    private static void house() {
        Parishbook book = new Parishbook();
        for (int i = 0; i < 5; i++) {
            book.enter(0, 0, LAST, i % 2);
        }
        Pen.write(book, "ann");
        book.mention(0, 0);
        Pen.write(book, "bob");
        book.mention(0, 1);
        book.mention(1, 0);
        book.mention(2, 0);
        book.join(1, 2, 0);
        book.part(2, 3);
        book.join(0, 1, 0);
        book.demand(0, 1, 4);
        book.demand(1, 2, 4);
        book.demand(2, 3, 4);
        book.twins(0, 1);
        book.twins(0, 2);
        book.same(0, 3);
        book.nick(0, 1);
        book.knock();
        int[] want = {5, 4, 3, 2, 3, 0, 8, 1, 1, 2, 1, 1};
        for (int i = 0; i < want.length; i++) {
            int what = i;
            Check.due("house " + i, want[i], () -> book.house(what));
        }
        Check.argument("house -1", () -> book.house(-1));
        Check.argument("house 12", () -> book.house(12));
    }
}
