/** Promises 25, 26 and 49: undo, knock and house. */
public final class StepsTest {
    private static final int LAST = 73413;

    private StepsTest() {
    }

    public static void main(String[] args) {
        eight();
        each();
        eachIsOne();
        noSteps();
        inTheMiddle();
        round();
        askedAllAlong();
        nothingIsLeft();
        kept();
        knocks();
        house();
        Check.end();
    }

    private static void eight() {
        Parishbook book = new Parishbook();
        Check.state("no step", () -> book.undo());
        for (int i = 0; i < 9; i++) {
            book.enter(0, i, LAST, 0);
            int count = Math.min(8, i + 1);
            Check.due("steps", count, () -> book.house(6));
        }
        for (int left = 7; left >= 0; left--) {
            int count = left;
            Check.due("undo", count, () -> book.undo());
            Check.due("entries", count + 1, () -> book.house(0));
        }
        Check.state("the ninth step went for good", () -> book.undo());
        book.enter(0, 7, LAST, 0);
        Check.due("steps again", 1, () -> book.house(6));
        Check.due("undo again", 0, () -> book.undo());
        Check.due("entries", 1, () -> book.house(0));
    }

    /** After each kind of step, an undo brings all back, as far as it is not of the steps. */
    private static void each() {
        Untouched.Deed[] calls = {
            x -> x.enter(1, 5, 6, 0), x -> x.mention(4, 0), x -> x.put(0, 7, 8), x -> x.age(2, 30), x -> x.close(5),
            x -> x.twins(0, 1), x -> x.same(2, 3), x -> x.demand(2, 3, 99), x -> x.undemand(0), x -> x.join(0, 2, 3),
            x -> x.part(0, 1), x -> x.unsay(0), x -> x.nick(0, 2), x -> x.match(0, 0, 2, 0, 1)
        };
        String before = all(sixEntries());
        for (int i = 0; i < calls.length; i++) {
            Untouched.Deed call = calls[i];
            Parishbook book = sixEntries();
            Check.due("steps ahead of call " + i, 8, () -> book.house(6));
            String answer = Check.told(() -> call.on(book));
            Check.due("call " + i + " throws", false, () -> answer.startsWith("throws") || answer.equals("-9"));
            boolean isMatch = i == calls.length - 1;
            Check.due("call " + i + " changed something", !isMatch, () -> !all(book).equals(before));
            Check.due("undo of call " + i, 7, () -> book.undo());
            Check.due("all after undo of call " + i, before, () -> all(book));
        }
    }

    private static Parishbook sixEntries() {
        Parishbook book = new Parishbook();
        Pen.write(book, "mary");
        int[] kinds = {0, 0, 2, 2, 3, 3};
        for (int i = 0; i < 6; i++) {
            book.enter(kinds[i], 1000 * i, 1000 * i + 30000, i % 2);
        }
        book.mention(0, 0);
        book.mention(1, 0);
        Pen.write(book, "bob");
        book.mention(2, 0);
        book.mention(3, 0);
        book.join(2, 3, 5);
        book.demand(0, 1, 3);
        book.match(0, 0, 3, 0, 1);
        return book;
    }

    private static String all(Parishbook book) {
        StringBuilder text = new StringBuilder();
        for (int what = 0; what <= 11; what++) {
            text.append(what == 6 ? 0 : book.house(what)).append(' ');
        }
        for (int e = 0; e < book.house(0); e++) {
            for (int what = 0; what <= 9; what++) {
                text.append(book.ofEntry(e, what)).append(' ');
            }
            for (int f = 0; f < book.house(0); f++) {
                text.append(book.apart(e, f)).append(' ');
            }
        }
        for (int m = 0; m < book.house(1); m++) {
            text.append(book.mentions(m)).append('/').append(book.ofMention(m, 8)).append(' ');
            for (int n = 0; n < book.house(1); n++) {
                text.append(book.likeness(m, n)).append(' ');
            }
        }
        for (int nth = 0; nth < book.house(3); nth++) {
            text.append(book.saying(nth)).append(' ');
        }
        return text.toString();
    }

    /** What no undo brings back, and what is no step. */
    private static void kept() {
        Parishbook book = new Parishbook();
        book.enter(0, 0, LAST, 0);
        book.mention(0, 0);
        book.mention(0, 1);
        Pen.write(book, "ann");
        book.type(3);
        book.knock();
        Check.due("join refused", -9, () -> book.join(0, 1, 0));
        Check.due("nick refused", -9, () -> book.nick(0, 1));
        Check.due("steps", 3, () -> book.house(6));
        Check.argument("a throw", () -> book.enter(9, 0, 0, 0));
        Check.state("a throw", () -> book.mention(0, 1));
        Check.index("a throw", () -> book.close(1));
        Check.due("steps", 3, () -> book.house(6));
        book.undo();
        book.undo();
        book.undo();
        Check.due("the pen", "07", () -> book.key());
        Check.due("the slip", 1, () -> book.fault());
        Check.due("refused", 2, () -> book.house(7));
        Check.due("knocked", 1, () -> book.house(8));
        Check.due("entries", 0, () -> book.house(0));
        Check.state("none is left", () -> book.undo());
    }

    private static void knocks() {
        Parishbook book = new Parishbook();
        for (int i = 1; i <= 5; i++) {
            Check.due("knock", i, () -> book.knock());
        }
        Check.due("knocks", 5, () -> book.house(8));
        Check.due("no steps", 0, () -> book.house(6));
    }

    private static void house() {
        Parishbook book = new Parishbook();
        for (int i = 0; i < 5; i++) {
            book.enter(0, 0, LAST, i % 2);
        }
        Pen.write(book, "ann");
        book.mention(0, 0);
        Pen.write(book, "bob");
        book.mention(0, 1);
        book.mention(1, 0);
        book.mention(2, 0);
        book.join(1, 2, 0);
        book.part(2, 3);
        book.join(0, 1, 0);
        book.demand(0, 1, 4);
        book.demand(1, 2, 4);
        book.demand(2, 3, 4);
        book.twins(0, 1);
        book.twins(0, 2);
        book.same(0, 3);
        book.nick(0, 1);
        book.knock();
        int[] want = {5, 4, 3, 2, 3, 0, 8, 1, 1, 2, 1, 1};
        for (int i = 0; i < want.length; i++) {
            int what = i;
            Check.due("house " + i, want[i], () -> book.house(what));
        }
        Check.argument("house -1", () -> book.house(-1));
        Check.argument("house 12", () -> book.house(12));
    }

    private static final Untouched.Deed[] STEPS = {
        x -> x.enter(1, 5, 6, 0), x -> x.mention(4, 0), x -> x.put(4, 7, 8), x -> x.put(4, 0, 9), x -> x.age(2, 30),
        x -> x.age(2, -1), x -> x.age(3, -1), x -> x.close(0), x -> x.close(6), x -> x.twins(5, 6), x -> x.same(5, 7),
        x -> x.demand(0, 3, 400), x -> x.undemand(0), x -> x.join(11, 9, 0), x -> x.join(9, 3, 5), x -> x.part(11, 3),
        x -> x.unsay(0), x -> x.nick(0, 6), x -> x.match(0, 0, 1, 0, 3), x -> x.match(3, 2, 3, 1, 3)
    };
    private static final int[] ANSWERS = {8, 12, -8, 0, 30, 30, -1, 1, 0, 1, 1, 2, 0, 0, 0, 4, 11, 2, 0, 0};

    /** The small register with a baptism and three births more; of its steps three are kept. */
    private static Parishbook some() {
        Parishbook book = Registers.small();
        book.enter(1, 0, 9, 0);
        book.mention(4, 1);
        for (int e = 5; e <= 7; e++) {
            book.enter(0, 0, 9, e / 7);
        }
        book.close(6);
        for (int i = 0; i < 5; i++) {
            book.put(4, 0, 9);
        }
        for (int i = 0; i < 5; i++) {
            book.undo();
        }
        return book;
    }

    /** Each call of entries and of sayings that throws nothing is one STEP, though it may change nothing. */
    private static void eachIsOne() {
        String before = Whole.kept(some());
        for (int i = 0; i < STEPS.length; i++) {
            Untouched.Deed deed = STEPS[i];
            Parishbook book = some();
            Check.due("steps ahead of step " + i, 3, () -> book.house(6));
            Check.due("step " + i, ANSWERS[i], () -> deed.on(book));
            Check.due("steps behind step " + i, 4, () -> book.house(6));
            Check.due("undo of step " + i, 3, () -> book.undo());
            Check.due("all as it was ahead of step " + i, before, () -> Whole.kept(book));
        }
    }

    /** Calls of the other groups are no STEPS, and undo is none. */
    private static void noSteps() {
        Parishbook book = Registers.small();
        for (int i = 0; i < 3; i++) {
            book.undo();
        }
        Untouched.Deed[] calls = {
            x -> x.day(0, 1, 1, 1700), x -> x.date(0, 0), x -> x.feast(0, 0, 1700), x -> x.type(4), x -> x.fault(),
            x -> x.told(), x -> x.wipe(), x -> x.pen(1, 0, 0, 0, 0, 0), x -> x.key(), x -> x.knock(), x -> x.person(0),
            x -> x.likeness(0, 1), x -> x.mentions(0), x -> x.bound(0, true), x -> x.apart(0, 1), x -> x.clash(true),
            x -> x.degree(0, 1, true), x -> x.bars(0, 1), x -> x.leave(0, 1), x -> x.common(0, 1), x -> x.line(0, true),
            x -> x.forebear(0, 1), x -> x.number(0, 1), x -> x.letters(0, 1), x -> x.tree(0), x -> x.loops(0),
            x -> x.alive(0, 0), x -> x.household(2, 1700), x -> x.gap(0, 1), x -> x.ofEntry(0, 0),
            x -> x.ofMention(0, 0), x -> x.house(0), x -> x.isSound(), x -> x.digest()
        };
        Parishbook twin = Registers.small();
        for (int i = 0; i < 3; i++) {
            twin.undo();
        }
        for (int i = 0; i < calls.length; i++) {
            Untouched.Deed call = calls[i];
            Check.due("call " + i + " throws", false, () -> Check.told(() -> call.on(book)).startsWith("throws."));
            Check.due("steps behind call " + i, 5, () -> book.house(6));
        }
        Check.due("undo is no step", 4, () -> book.undo());
        twin.undo();
        twin.pen(1, 0, 0, 0, 0, 0);
        twin.wipe();
        Check.due("all behind these calls", Whole.kept(twin), () -> Whole.kept(book));
        Check.due("and ahead of them", Whole.ahead(twin), () -> Whole.ahead(book));
    }

    /** A saying or a demand that goes from the middle comes back to its place. */
    private static void inTheMiddle() {
        String before = Whole.kept(Registers.full());
        for (int nth = 0; nth < 12; nth++) {
            Parishbook book = Registers.full();
            String own = book.saying(nth);
            book.unsay(nth);
            Check.due("sayings without " + own, 11, () -> book.house(3));
            book.undo();
            Check.due("all behind undo of unsay " + nth, before, () -> Whole.kept(book));
        }
        Parishbook demands = new Parishbook();
        for (int e = 0; e < 7; e++) {
            demands.enter(0, 0, LAST, 0);
        }
        for (int e = 0; e < 6; e++) {
            demands.demand(e, e + 1, 100 + e);
        }
        for (int i = 0; i < 6; i++) {
            int nth = i;
            Check.due("undemand", 5, () -> demands.undemand(nth));
            Check.due("not demanded", true, () -> demands.apart(nth, nth + 1) < 0);
            Check.due("undo", 7, () -> demands.undo());
            for (int e = 0; e < 6; e++) {
                int first = e;
                Check.due("demanded", 100 + first, () -> demands.apart(first, first + 1));
            }
        }
        for (int left = 5; left >= 1; left--) {
            int count = left;
            int next = 6 - left;
            Check.due("undemand the first one", count, () -> demands.undemand(0));
            Check.due("the next one stays", 100 + next, () -> demands.apart(next, next + 1));
        }
        Check.due("undemand the last one", 0, () -> demands.undemand(0));
        Check.due("none stays", -LAST, () -> demands.apart(5, 6));
        severalAtOnce();
    }

    /** A match that joins many is one STEP. */
    private static void severalAtOnce() {
        Parishbook book = new Parishbook();
        Pen.write(book, "ann");
        for (int e = 0; e < 8; e++) {
            book.enter(e < 4 ? 0 : 1, 0, LAST, 0);
            book.mention(e, 0);
        }
        Check.due("match", 4, () -> book.match(0, 0, 1, 0, 3));
        Check.due("sayings", 4, () -> book.house(3));
        Check.due("undo", 7, () -> book.undo());
        Check.due("no sayings", 0, () -> book.house(3));
        Check.due("persons", 8, () -> book.house(2));
        Check.due("match once more", 4, () -> book.match(0, 0, 1, 0, 1));
        Check.due("the last one", "3=7:0", () -> book.saying(3));
    }

    /** Steps and steps back by turns, more than eight of them: each undo tells the state ahead of its step. */
    private static void round() {
        for (int rounds : new int[] {1, 7, 8, 9, 15, 16, 17, 40}) {
            Parishbook book = new Parishbook();
            book.enter(0, 0, LAST, 0);
            for (int i = 1; i <= rounds; i++) {
                book.put(0, i, LAST);
            }
            int kept = Math.min(8, rounds + 1);
            Check.due("steps of " + rounds, kept, () -> book.house(6));
            for (int left = kept - 1; left >= 0; left--) {
                int count = left;
                Check.due("undo", count, () -> book.undo());
                int from = rounds - (kept - left);
                Check.due("from behind undo", from < 0 ? "throws.IndexOutOfBoundsException" : from,
                        () -> book.ofEntry(0, 1));
            }
            Check.state("one more undo", () -> book.undo());
        }
        Parishbook book = new Parishbook();
        book.enter(0, 0, LAST, 0);
        for (int i = 1; i <= 30; i++) {
            int from = 10 * i;
            book.put(0, from, LAST);
            book.put(0, from + 1, LAST);
            book.put(0, from + 2, LAST);
            book.undo();
            book.undo();
            Check.due("two of three undone", from, () -> book.ofEntry(0, 1));
            Check.due("steps", Math.min(6, i + 1), () -> book.house(6));
        }
        for (int left = 5; left >= 0; left--) {
            int count = left;
            Check.due("undo", count, () -> book.undo());
            Check.due("from", 10 * (count + 24), () -> book.ofEntry(0, 1));
        }
        Check.state("those ahead went for good", () -> book.undo());
    }

    /** A register that was asked ahead of each step answers as one that was not. */
    private static void askedAllAlong() {
        Untouched.Deed[] deeds = {
            x -> x.join(1, 3, 0), x -> x.join(4, 6, 0), x -> x.join(2, 6, 0), x -> x.join(5, 9, 0),
            x -> x.unsay(1), x -> x.join(7, 0, 0), x -> x.undo(), x -> x.unsay(0), x -> x.put(0, 500, 9000),
            x -> x.undo(), x -> x.undo(), x -> x.demand(0, 1, 3000), x -> x.demand(1, 0, 3000), x -> x.undemand(0),
            x -> x.undo(), x -> x.undo(), x -> x.undo(), x -> x.same(0, 3), x -> x.unsay(0), x -> x.join(0, 9, 0),
            x -> x.undo(), x -> x.twins(0, 2), x -> x.part(0, 5), x -> x.match(0, 1, 0, 0, 1), x -> x.unsay(2),
            x -> x.undo()
        };
        Parishbook book = family();
        for (int i = 0; i < deeds.length; i++) {
            Untouched.Deed deed = deeds[i];
            book.digest();
            Parishbook twin = family();
            for (int j = 0; j < i; j++) {
                Untouched.Deed own = deeds[j];
                Check.told(() -> own.on(twin));
            }
            String due = Check.told(() -> deed.on(twin));
            Check.due("deed " + i, due, () -> deed.on(book));
            Check.due("all behind deed " + i, twin.digest(), () -> book.digest());
        }
    }

    /** Four births with all their mentions, each of one name. */
    private static Parishbook family() {
        Parishbook book = new Parishbook();
        Pen.write(book, "ann");
        for (int e = 0; e < 4; e++) {
            book.enter(0, 6000 * (3 - e), 6000 * (3 - e) + 9000, e % 2);
            Registers.mentionAll(book, e);
        }
        return book;
    }

    /** What was undone, unsaid or undemanded is no more looked at, though it was the last of its row. */
    private static void nothingIsLeft() {
        for (int undone = 0; undone < 2; undone++) {
            Parishbook book = new Parishbook();
            Pen.write(book, "ann");
            book.enter(undone == 0 ? 1 : 0, 0, LAST, 0);
            book.mention(0, 0);
            book.enter(undone == 0 ? 0 : 1, 0, LAST, 0);
            book.mention(1, 0);
            book.undo();
            Check.due("match with a mention that was undone", 0, () -> book.match(0, 0, 1, 0, 1));
            Check.due("no sayings", 0, () -> book.house(3));
            Check.due("mention", 1, () -> book.mention(1, 0));
            Check.due("match with one that is there", 1, () -> book.match(0, 0, 1, 0, 1));
        }
        Parishbook book = Registers.of(2, 2, 2);
        for (int i = 0; i < 3; i++) {
            Check.due("join", 0, () -> book.join(0, 3, 5));
            Check.due("unsay", 9, () -> book.unsay(0));
            Check.due("part", 1, () -> book.part(0, 3));
            Check.due("unsay", 9, () -> book.unsay(0));
        }
        book.part(1, 4);
        book.join(0, 3, 6);
        book.unsay(1);
        Check.due("join again behind another one", 0, () -> book.join(3, 0, 7));
        Check.due("saying", "0=3:7", () -> book.saying(1));
        clashesThatWent();
    }

    private static void clashesThatWent() {
        Parishbook book = new Parishbook();
        book.enter(0, 3, 3, 0);
        book.enter(0, 3, 3, 0);
        book.demand(0, 1, 1);
        Check.due("not possible", 0, () -> book.house(5));
        Check.due("clash", "0 1", () -> book.clash(true));
        book.undemand(0);
        Check.due("possible", 1, () -> book.house(5));
        book.undo();
        Check.due("not possible again", -1, () -> book.bound(1, false));
        book.undo();
        Check.due("possible", 3, () -> book.bound(1, false));
        book.demand(1, 0, 1);
        Check.due("not possible", -99999, () -> book.apart(0, 0));
        book.undo();
        book.undo();
        Check.due("possible with one entry", 1, () -> book.house(5));
        Check.due("no clash", "-", () -> book.clash(true));
        Check.due("nothing wrong", "-", () -> book.clash(false));
        Check.due("earliest", 3, () -> book.bound(0, false));
        book.undo();
        Check.due("possible with none", 1, () -> book.house(5));
        Check.due("sound", true, () -> book.isSound());
    }
}
