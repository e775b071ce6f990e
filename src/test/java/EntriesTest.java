/** Promises 1, 11 to 19 and 47: a new object, entries, their spans, ages, pairs and demands. */
public final class EntriesTest {
    private static final int LAST = 73413;
    private static final int[] EDGES = {-1, Integer.MIN_VALUE, Integer.MAX_VALUE};

    private EntriesTest() {
    }

    public static void main(String[] args) {
        empty();
        enter();
        mention();
        put();
        age();
        close();
        twins();
        same();
        demand();
        ofEntry();
        Check.end();
    }

    private static void empty() {
        Parishbook book = new Parishbook();
        int[] house = {0, 0, 0, 0, 0, 1, 0, 0, 0, 0, 0, 0};
        for (int i = 0; i < house.length; i++) {
            int what = i;
            Check.due("house(" + i + ") of a new one", house[i], () -> book.house(what));
        }
        Check.due("clash of a new one", "-", () -> book.clash(true));
        Check.due("wrong of a new one", "-", () -> book.clash(false));
        Check.due("gap of a new one", "", () -> book.gap(0, 1));
        Check.due("fault of a new one", 0, () -> book.fault());
        Check.due("a new one is sound", true, () -> book.isSound());
        Check.index("no entry", () -> book.bound(0, true));
        Check.index("no mention", () -> book.person(0));
        Check.index("no saying", () -> book.saying(0));
        Check.index("no demand", () -> book.undemand(0));
        Check.state("no step", () -> book.undo());
    }

    private static void enter() {
        Parishbook book = new Parishbook();
        for (int wrong : EDGES) {
            Check.argument("kind", () -> book.enter(wrong, 0, 0, 0));
            Check.argument("from", () -> book.enter(0, wrong, LAST, 0));
            Check.argument("to", () -> book.enter(0, 0, wrong, 0));
            Check.argument("book", () -> book.enter(0, 0, 0, wrong));
        }
        Check.argument("kind 4", () -> book.enter(4, 0, 0, 0));
        Check.argument("from 73414", () -> book.enter(0, LAST + 1, LAST + 1, 0));
        Check.argument("to 73414", () -> book.enter(0, LAST, LAST + 1, 0));
        Check.argument("to ahead of from", () -> book.enter(0, 5, 4, 0));
        Check.argument("book 2", () -> book.enter(0, 0, 0, 2));
        Check.due("no step of it", 0, () -> book.house(6));
        for (int i = 0; i < 10; i++) {
            int number = i;
            Check.due("enter", i, () -> book.enter(number % 4, number, number == 9 ? LAST : number, number % 2));
        }
        Check.state("an eleventh one", () -> book.enter(0, 0, 0, 0));
        Check.argument("a wrong eleventh one", () -> book.enter(0, 1, 0, 0));
        Check.due("kind", 3, () -> book.ofEntry(7, 0));
        Check.due("from", 7, () -> book.ofEntry(7, 1));
        Check.due("to", LAST, () -> book.ofEntry(9, 2));
        Check.due("book", 1, () -> book.ofEntry(7, 3));
    }

    private static void mention() {
        Parishbook book = new Parishbook();
        for (int i = 0; i < 10; i++) {
            book.enter(i % 4, 0, LAST, 0);
        }
        Check.index("entry -1", () -> book.mention(-1, 0));
        Check.index("entry 10", () -> book.mention(10, 9));
        for (int kind = 0; kind < 4; kind++) {
            int entry = kind;
            Check.argument("role -1", () -> book.mention(entry, -1));
            Check.argument("role 3", () -> book.mention(entry, 3));
        }
        Check.argument("role 2 of a death", () -> book.mention(3, 2));
        Pen.write(book, "ann");
        int count = 0;
        for (int e = 0; e < 8; e++) {
            for (int r = e % 4 == 3 ? 1 : 2; r >= 0; r--) {
                int entry = e;
                int role = r;
                Check.due("mention", count, () -> book.mention(entry, role));
                Check.state("mention again", () -> book.mention(entry, role));
                count++;
            }
        }
        Check.due("mention 22", 22, () -> book.mention(8, 0));
        Pen.write(book, "");
        book.close(9);
        Check.state("mention of a closed one", () -> book.mention(9, 0));
        Check.argument("no role of a closed one", () -> book.mention(9, 3));
        Check.due("mention 23", 23, () -> book.mention(8, 1));
        Check.state("a mention too many", () -> book.mention(8, 2));
        Check.due("mentions", 24, () -> book.house(1));
        Check.due("letters", 3, () -> book.ofMention(22, 8));
        Check.due("letters of a mark", 0, () -> book.ofMention(23, 8));
        Check.due("entry of it", 8, () -> book.ofMention(22, 0));
        Check.due("role of it", 1, () -> book.ofMention(23, 1));
        Check.due("persons", 24, () -> book.house(2));
    }

    private static void put() {
        Parishbook book = new Parishbook();
        book.enter(0, 100, 200, 0);
        Check.due("put wider", 150, () -> book.put(0, 0, 250));
        Check.due("put narrower", -250, () -> book.put(0, 7, 7));
        Check.due("put aside", 0, () -> book.put(0, LAST, LAST));
        Check.due("from", LAST, () -> book.ofEntry(0, 1));
        Check.due("to", LAST, () -> book.ofEntry(0, 2));
        Check.index("put of 1", () -> book.put(1, 5, 4));
        Check.index("put of -1", () -> book.put(-1, 0, 0));
        Check.argument("put backwards", () -> book.put(0, 5, 4));
        Check.argument("put from -1", () -> book.put(0, -1, 4));
        Check.argument("put to 73414", () -> book.put(0, 0, LAST + 1));
        book.close(0);
        Check.state("put of a closed one", () -> book.put(0, 0, 0));
        Check.argument("put of a closed one backwards", () -> book.put(0, 5, 4));
        Check.due("as it was", LAST, () -> book.ofEntry(0, 1));
    }

    private static void age() {
        Parishbook book = new Parishbook();
        for (int kind = 0; kind < 4; kind++) {
            book.enter(kind, 0, LAST, 0);
        }
        Check.index("age of 4", () -> book.age(4, 100));
        Check.index("age of -1", () -> book.age(-1, 0));
        Check.argument("age of a birth", () -> book.age(0, 5));
        Check.argument("age of a baptism", () -> book.age(1, 5));
        Check.argument("age 100", () -> book.age(2, 100));
        Check.argument("age -2", () -> book.age(3, -2));
        Check.due("age none before", -1, () -> book.age(2, 99));
        Check.due("age before", 99, () -> book.age(2, 0));
        Check.due("age 0 before", 0, () -> book.age(2, -1));
        Check.due("no age before", -1, () -> book.age(2, 20));
        Check.due("age of it", 20, () -> book.ofEntry(2, 4));
        Check.due("no age of it", -1, () -> book.ofEntry(3, 4));
        book.close(3);
        Check.state("age of a closed one", () -> book.age(3, 5));
        Check.argument("age 100 of a closed one", () -> book.age(3, 100));
    }

    private static void close() {
        Parishbook book = new Parishbook();
        book.enter(0, 0, 0, 0);
        Check.index("close 1", () -> book.close(1));
        Check.index("close -1", () -> book.close(-1));
        Check.due("open", 0, () -> book.ofEntry(0, 5));
        Check.due("close", 1, () -> book.close(0));
        Check.due("close again", 0, () -> book.close(0));
        Check.due("closed", 1, () -> book.ofEntry(0, 5));
        Check.due("both were steps", 3, () -> book.house(6));
        book.undo();
        Check.due("still closed", 1, () -> book.ofEntry(0, 5));
        book.undo();
        Check.due("open again", 0, () -> book.ofEntry(0, 5));
    }

    private static Parishbook births() {
        Parishbook book = new Parishbook();
        for (int i = 0; i < 8; i++) {
            book.enter(0, 0, LAST, i % 2);
        }
        book.enter(1, 0, LAST, 0);
        book.enter(1, 0, LAST, 1);
        return book;
    }

    private static void twins() {
        Parishbook book = births();
        Check.index("twins of 10", () -> book.twins(10, 0));
        Check.index("twins with -1", () -> book.twins(0, -1));
        Check.argument("twins of one", () -> book.twins(3, 3));
        Check.argument("twins of a baptism", () -> book.twins(8, 0));
        Check.argument("twins with a baptism", () -> book.twins(0, 8));
        Check.due("twins", 1, () -> book.twins(0, 1));
        Check.state("twins already", () -> book.twins(1, 0));
        book.same(2, 3);
        Check.state("the same already", () -> book.twins(3, 2));
        Check.due("twins", 2, () -> book.twins(1, 2));
        Check.due("twins", 3, () -> book.twins(5, 3));
        Check.due("twins", 4, () -> book.twins(4, 5));
        Check.state("a fifth pair", () -> book.twins(6, 7));
        Check.due("twins", 4, () -> book.house(9));
        book.close(6);
        book.undo();
        book.undo();
        book.close(6);
        Check.due("twins of a closed one", 4, () -> book.twins(6, 7));
    }

    private static void same() {
        Parishbook book = births();
        Check.index("same of 10", () -> book.same(10, 0));
        Check.index("same with -1", () -> book.same(0, -1));
        Check.argument("same of one", () -> book.same(3, 3));
        Check.argument("same of one book", () -> book.same(2, 0));
        Check.argument("same of unlike kinds", () -> book.same(0, 9));
        Check.due("same", 1, () -> book.same(0, 1));
        Check.state("same already", () -> book.same(1, 0));
        book.twins(2, 3);
        Check.state("twins already", () -> book.same(3, 2));
        Check.due("same", 2, () -> book.same(8, 9));
        Check.due("same", 3, () -> book.same(0, 3));
        Check.due("same", 4, () -> book.same(5, 4));
        Check.state("a fifth pair", () -> book.same(6, 7));
        Check.due("same", 4, () -> book.house(10));
    }

    private static void demand() {
        Parishbook book = births();
        Check.index("demand of 10", () -> book.demand(10, 0, 0));
        Check.index("demand with -1", () -> book.demand(0, -1, 99999));
        Check.argument("demand of one", () -> book.demand(3, 3, 0));
        Check.argument("demand of 40001", () -> book.demand(0, 1, 40001));
        Check.argument("demand of -40001", () -> book.demand(0, 1, -40001));
        Check.argument("demand of much", () -> book.demand(0, 1, Integer.MAX_VALUE));
        Check.argument("demand of little", () -> book.demand(0, 1, Integer.MIN_VALUE));
        int[] least = {40000, -40000, 0, 5, 5, 30000};
        for (int i = 0; i < 6; i++) {
            int value = least[i];
            int second = i + 1;
            Check.due("demand", i + 1, () -> book.demand(0, second, value));
        }
        Check.state("a seventh demand", () -> book.demand(0, 1, 0));
        Check.argument("a seventh wrong demand", () -> book.demand(0, 0, 0));
        Check.due("demands", 6, () -> book.house(4));
        Check.due("apart", 40000, () -> book.apart(0, 1));
        Check.index("undemand 6", () -> book.undemand(6));
        Check.index("undemand -1", () -> book.undemand(-1));
        Check.due("undemand 0", 5, () -> book.undemand(0));
        Check.due("apart", 30000, () -> book.apart(0, 6));
        Check.due("undemand 4", 4, () -> book.undemand(4));
        Check.due("apart no more", 5 - LAST, () -> book.apart(0, 6));
        Check.due("apart still", 5, () -> book.apart(0, 5));
        Check.due("undemand 1", 3, () -> book.undemand(1));
        Check.due("apart no more", 5 - LAST, () -> book.apart(0, 3));
        Check.index("undemand 3", () -> book.undemand(3));
        Check.due("another demand", 4, () -> book.demand(7, 8, 1));
    }

    private static void ofEntry() {
        Parishbook book = new Parishbook();
        book.enter(3, 10, 20, 1);
        book.mention(0, 1);
        book.age(0, 44);
        int[] want = {3, 10, 20, 1, 44, 0, 1, -1, 0, -1};
        for (int i = 0; i < want.length; i++) {
            int what = i;
            Check.due("ofEntry " + i, want[i], () -> book.ofEntry(0, what));
        }
        book.enter(2, 10, 20, 1);
        book.mention(1, 2);
        book.mention(1, 0);
        Check.due("mentions", 2, () -> book.ofEntry(1, 6));
        Check.due("role 0", 2, () -> book.ofEntry(1, 7));
        Check.due("role 1", -1, () -> book.ofEntry(1, 8));
        Check.due("role 2", 1, () -> book.ofEntry(1, 9));
        Check.index("entry -1", () -> book.ofEntry(-1, 0));
        Check.index("entry 2", () -> book.ofEntry(2, 10));
        Check.argument("what -1", () -> book.ofEntry(0, -1));
        Check.argument("what 10", () -> book.ofEntry(0, 10));
    }
}
