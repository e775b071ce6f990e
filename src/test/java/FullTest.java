/** The empty register and the full one: what each holds, what one call more answers, and the way back. */
public final class FullTest {
    private static final int LAST = 73413;

    private FullTest() {
    }

    public static void main(String[] args) {
        emptyOne();
        emptyOneIsFilled();
        fullOne();
        oneMore();
        oneLess();
        eachByItself();
        fullOfDemands();
        allCalls();
        Check.end();
    }

    private static void emptyOne() {
        Parishbook book = new Parishbook();
        int[] house = {0, 0, 0, 0, 0, 1, 0, 0, 0, 0, 0, 0};
        for (int i = 0; i < house.length; i++) {
            int what = i;
            Check.due("house " + i + " of the empty one", house[i], () -> book.house(what));
        }
        Check.due("clash", "-", () -> book.clash(true));
        Check.due("wrong", "-", () -> book.clash(false));
        Check.due("gap of book 0", "", () -> book.gap(0, 1));
        Check.due("gap of book 1", "", () -> book.gap(1, 999));
        Check.due("fault", 0, () -> book.fault());
        Check.due("told", -1, () -> book.told());
        Check.due("wipe", 0, () -> book.wipe());
        Check.due("key", "+", () -> book.key());
        Check.due("sound", true, () -> book.isSound());
        Check.due("match", 0, () -> book.match(0, 0, 1, 0, 1));
        Check.due("match is a step", 1, () -> book.house(6));
        Check.due("undo of it", 0, () -> book.undo());
        for (int none : new int[] {-1, 0, 1}) {
            noneIn(book, none);
        }
    }

    private static void noneIn(Parishbook book, int none) {
        Check.Call[] calls = {
            () -> book.mention(none, 0), () -> book.put(none, 0, 0), () -> book.age(none, 0),
            () -> book.close(none), () -> book.twins(none, 0), () -> book.same(none, 0),
            () -> book.demand(none, 0, 0), () -> book.undemand(none), () -> book.join(none, 0, 0),
            () -> book.part(none, 0), () -> book.unsay(none), () -> book.nick(none, 0),
            () -> book.person(none), () -> book.likeness(none, none), () -> book.saying(none),
            () -> book.mentions(none), () -> book.bound(none, true), () -> book.apart(none, none),
            () -> book.degree(none, none, true), () -> book.bars(none, none), () -> book.leave(none, none),
            () -> book.common(none, none), () -> book.line(none, true), () -> book.forebear(none, 1),
            () -> book.number(none, none), () -> book.letters(none, none), () -> book.tree(none),
            () -> book.loops(none), () -> book.alive(none, 0), () -> book.household(none, 1700),
            () -> book.ofEntry(none, 0), () -> book.ofMention(none, 0)
        };
        for (int i = 0; i < calls.length; i++) {
            Check.index("call " + i + " of " + none + " in the empty one", calls[i]);
        }
    }

    /** Numbers of what there is begin with 0 and are there as soon as they were told. */
    private static void emptyOneIsFilled() {
        Parishbook book = new Parishbook();
        Check.index("entry 0 ahead", () -> book.ofEntry(0, 0));
        Check.due("entry 0", 0, () -> book.enter(3, LAST, LAST, 1));
        Check.due("kind of it", 3, () -> book.ofEntry(0, 0));
        Check.index("entry 1", () -> book.ofEntry(1, 0));
        Check.index("mention 0 ahead", () -> book.person(0));
        Check.due("mention 0", 0, () -> book.mention(0, 1));
        Check.due("person of it", 0, () -> book.person(0));
        Check.due("alone", "0", () -> book.mentions(0));
        Check.due("its tree", "0", () -> book.tree(0));
        Check.due("its line", "0", () -> book.line(0, true));
        Check.due("its part", "1/2", () -> book.common(0, 0));
        Check.due("its number", 1, () -> book.number(0, 0));
        Check.due("its letters", "", () -> book.letters(0, 0));
        Check.due("its bars", "-", () -> book.bars(0, 0));
        Check.due("its leave", 2, () -> book.leave(0, 0));
        Check.due("alive", 1, () -> book.alive(0, 0));
        Check.due("entries", 1, () -> book.house(0));
        Check.due("mentions", 1, () -> book.house(1));
        Check.due("persons", 1, () -> book.house(2));
        book.undo();
        Check.index("mention 0 behind undo", () -> book.person(0));
        book.undo();
        Check.index("entry 0 behind undo", () -> book.ofEntry(0, 0));
        Check.due("entry 0 once more", 0, () -> book.enter(0, 0, 0, 0));
        Check.due("its kind", 0, () -> book.ofEntry(0, 0));
        Check.due("its mention of the role 1", -1, () -> book.ofEntry(0, 8));
    }

    private static void fullOne() {
        Parishbook book = Registers.full();
        int[] house = {10, 24, 17, 12, 6, 1, 8, 0, 0, 4, 4, 6};
        for (int i = 0; i < house.length; i++) {
            int what = i;
            Check.due("house " + i + " of the full one", house[i], () -> book.house(what));
        }
        Check.due("sound", true, () -> book.isSound());
        Check.due("fault", 2, () -> book.fault());
        Check.due("the last saying", "5#11", () -> book.saying(11));
        Check.due("the last mention", "23", () -> book.mentions(23));
        Check.due("the last entry", 9, () -> book.ofEntry(9, 1));
        Check.due("a pair of the same", 0, () -> book.apart(6, 7));
        Check.due("the first nick", 1, () -> book.likeness(0, 1));
        Check.due("the last nick", 1, () -> book.likeness(8, 14));
        Check.due("match", 0, () -> book.match(1, 1, 2, 1, 1));
        Check.due("match is a step", 8, () -> book.house(6));
        Check.due("undo of it", 7, () -> book.undo());
        Check.due("sayings", 12, () -> book.house(3));
        Check.due("undo of the last saying", 6, () -> book.undo());
        Check.due("sayings", 11, () -> book.house(3));
        Check.due("a saying that there is room for", 12, () -> book.part(11, 5));
        Check.due("as it was", "5#11", () -> book.saying(11));
        Check.due("wipe", 14, () -> book.wipe());
        Check.due("a sign that there is room for", 1, () -> book.type(13));
    }

    /** What the full register has no room for; what takes no room is done still. */
    private static void oneMore() {
        Parishbook book = Registers.full();
        Check.state("a fifteenth sign", () -> book.type(0));
        Check.state("an eleventh entry", () -> book.enter(0, 0, LAST, 0));
        Check.state("a twenty-fifth mention", () -> book.mention(7, 0));
        Check.state("a fifth pair of twins", () -> book.twins(1, 4));
        Check.state("a fifth pair of the same", () -> book.same(0, 3));
        Check.state("a seventh demand", () -> book.demand(0, 1, 0));
        Check.state("a thirteenth saying that joins", () -> book.join(14, 23, 0));
        Check.state("a thirteenth saying that parts", () -> book.part(14, 23));
        Check.state("a seventh nick", () -> book.nick(1, 2));
        Check.due("another span", -LAST, () -> book.put(0, 5, 5));
        Check.due("an age", -1, () -> book.age(9, 99));
        Check.due("close", 1, () -> book.close(9));
        Check.due("pen", 0, () -> book.pen(0, 0, 0, 0, 0, 0));
        Check.due("knock", 1, () -> book.knock());
        Check.due("steps", 8, () -> book.house(6));
        Check.due("refusals", 0, () -> book.house(7));
    }

    /** There is room again for what went, and for no more. */
    private static void oneLess() {
        Parishbook book = Registers.full();
        Check.due("undemand", 5, () -> book.undemand(0));
        Check.due("demand", 6, () -> book.demand(9, 8, -40000));
        Check.state("one more", () -> book.demand(9, 8, -40000));
        Check.due("unsay", 18, () -> book.unsay(0));
        Check.due("join", 0, () -> book.join(0, 18, 9));
        Check.state("one more", () -> book.join(14, 23, 0));
        Check.due("the last one then", "0=18:9", () -> book.saying(11));
        Check.due("the first one then", "6=20:1", () -> book.saying(0));
        Parishbook other = Registers.full();
        other.unsay(11);
        Check.due("match of all that there is room for", 1, () -> other.match(0, 1, 1, 1, 1));
        Check.due("sayings", 12, () -> other.house(3));
        Check.due("match of no more", 0, () -> other.match(0, 2, 2, 1, 1));
    }

    /** Each limit in a register that is full in nothing else; an undo makes room for one. */
    private static void eachByItself() {
        Parishbook nicks = Registers.small();
        Check.due("second nick", 2, () -> nicks.nick(0, 6));
        Check.due("third nick", 3, () -> nicks.nick(3, 6));
        Parishbook pairs = Registers.of(0, 0, 0, 0);
        int[][] twins = {{0, 1}, {1, 2}, {2, 3}, {0, 3}};
        for (int i = 0; i < 4; i++) {
            int[] pair = twins[i];
            Check.due("twins", i + 1, () -> pairs.twins(pair[0], pair[1]));
        }
        Check.state("a fifth pair", () -> pairs.twins(0, 2));
        pairs.undo();
        Check.due("another fourth pair", 4, () -> pairs.twins(0, 2));
        Check.state("a fifth pair again", () -> pairs.twins(0, 3));
        Check.due("twins", 4, () -> pairs.house(9));
        Parishbook same = Registers.of(2, 2, 2, 2, 2);
        int[][] sames = {{0, 1}, {1, 2}, {2, 3}, {3, 4}};
        for (int i = 0; i < 4; i++) {
            int[] pair = sames[i];
            Check.due("same", i + 1, () -> same.same(pair[0], pair[1]));
        }
        Check.state("a fifth pair of the same", () -> same.same(0, 3));
        same.undo();
        Check.due("another fourth pair of the same", 4, () -> same.same(0, 3));
        Check.due("same", 4, () -> same.house(10));
        roomForMentions();
    }

    private static void roomForMentions() {
        Parishbook book = Registers.of(0, 1, 2, 0, 1, 2, 0);
        book.enter(2, 0, LAST, 0);
        Check.due("mentions", 21, () -> book.house(1));
        for (int role = 0; role < 3; role++) {
            int own = role;
            Check.due("mention", 21 + role, () -> book.mention(7, own));
        }
        book.enter(3, 0, LAST, 0);
        Check.state("a twenty-fifth mention", () -> book.mention(8, 0));
        book.undo();
        book.undo();
        Check.due("mentions", 23, () -> book.house(1));
        book.enter(3, 0, LAST, 0);
        Check.due("a twenty-fourth mention", 23, () -> book.mention(8, 1));
        Check.state("a twenty-fifth mention again", () -> book.mention(8, 0));
        book.enter(0, 0, LAST, 0);
        Check.state("a twenty-fifth one in the tenth entry", () -> book.mention(9, 0));
        Check.state("an eleventh entry", () -> book.enter(0, 0, LAST, 0));
    }

    /** All of four pairs and of six demands ask something, the first ones and the last ones too. */
    private static void fullOfDemands() {
        Parishbook book = new Parishbook();
        for (int e = 0; e < 10; e++) {
            book.enter(0, 0, LAST, e % 2);
        }
        for (int i = 0; i < 4; i++) {
            book.twins(2 * i, 2 * i + 1);
        }
        for (int e = 0; e < 8; e += 2) {
            asked(book, "twins", e, -1, -1);
        }
        for (int e = 6; e >= 0; e -= 2) {
            book.undo();
            asked(book, "twins undone", e, -LAST, -LAST);
        }
        for (int e = 1; e < 9; e += 2) {
            book.same(e, e + 1);
        }
        for (int e = 1; e < 9; e += 2) {
            asked(book, "same", e, 0, 0);
        }
        for (int e = 7; e >= 1; e -= 2) {
            book.undo();
            asked(book, "same undone", e, -LAST, -LAST);
        }
        for (int e = 0; e < 6; e++) {
            book.demand(e, e + 1, 10 + e);
        }
        for (int e = 0; e < 6; e++) {
            int others = 10 + 11 + 12 + 13 + 14 + 15 - (10 + e);
            asked(book, "demand", e, 10 + e, others - LAST);
        }
    }

    /** How far an entry and the next one are apart at least, and back. */
    private static void asked(Parishbook book, String what, int entry, int there, int back) {
        Check.due(what + " " + entry, there, () -> book.apart(entry, entry + 1));
        Check.due(what + " " + entry + " back", back, () -> book.apart(entry + 1, entry));
    }

    /** The last one of 512 calls answers as a new object does that came there by few. */
    private static void allCalls() {
        Parishbook book = new Parishbook();
        for (int i = 0; i < 255; i++) {
            int kind = i % 4;
            Check.due("enter", 0, () -> book.enter(kind, kind, LAST - kind, 1));
            Check.due("undo", 0, () -> book.undo());
        }
        Check.due("call 511", 0, () -> book.enter(2, 5, 6, 1));
        Parishbook twin = new Parishbook();
        twin.enter(2, 5, 6, 1);
        Check.due("call 512", twin.digest(), () -> book.digest());
        Parishbook door = new Parishbook();
        for (int i = 1; i <= 511; i++) {
            int count = i;
            Check.due("knock", count, () -> door.knock());
        }
        Check.due("call 512", 511, () -> door.house(8));
    }
}
