import java.util.Random;

/** Long runs of calls, drawn from fixed seeds, answered by the program and by the model alike. */
public final class RunsTest {
    private static Random random;
    private static Parishbook book;
    private static Model model;
    private static int wild;

    /** An object is asked 512 times; a run's last two calls are digest() and isSound(). */
    private static final int MOST_CALLS = 512;
    private static int asked;
    private static int limit;

    private RunsTest() {
    }

    public static void main(String[] args) {
        int runs = args.length > 0 ? Integer.parseInt(args[0]) : 120;
        int first = args.length > 1 ? Integer.parseInt(args[1]) : 1;
        int calls = args.length > 2 ? Integer.parseInt(args[2]) : 140;
        for (int run = first; run < first + runs; run++) {
            begin(run);
            for (int i = 0; i < calls; i++) {
                draw(run, i, 60);
            }
            end(run);
        }
        for (int run = 1; run <= (args.length > 0 ? 0 : 40); run++) {
            begin(run + 1000000);
            for (int i = 0; asked < limit; i++) {
                draw(run + 1000000, i, 100);
            }
            end(run + 1000000);
            Check.due("calls of a whole run", MOST_CALLS, () -> asked);
        }
        Check.end();
    }

    private static void begin(int run) {
        random = new Random(run);
        book = new Parishbook();
        model = new Model();
        wild = run % 3;
        asked = 0;
        limit = MOST_CALLS - 2;
    }

    private static void end(int run) {
        limit = MOST_CALLS;
        both(run, asked + 1, "digest()", () -> book.digest(), () -> model.digest());
        both(run, asked + 1, "isSound()", () -> book.isSound(), () -> model.isSound());
    }

    /** At first more of the calls that make the register fuller. */
    private static void draw(int run, int i, int growing) {
        if (i < growing && random.nextInt(3) > 0) {
            grow(run, i);
        } else {
            call(run, i, random.nextInt(51));
        }
    }

    private static void both(int run, int at, String what, Check.Call program, Check.Call due) {
        if (asked >= limit) {
            return;
        }
        asked++;
        Check.due("run " + run + ", call " + at + ", " + what, Check.told(due), program);
    }

    /** One of a few numbers from 0 on, seldom one that is out of them. */
    private static int some(int count) {
        return random.nextInt(40) == 0 ? random.nextInt(count + 4) - 2 : random.nextInt(Math.max(count, 1));
    }

    private static int entry() {
        return some(model.s.entries().size());
    }

    private static int mention() {
        return some(model.s.mentions().size());
    }

    /** Days by generations, so that many registers are possible, and many are not by little. */
    private static int from() {
        return wild == 0 ? random.nextInt(Model.LAST + 1) : random.nextInt(9) * 5000 + random.nextInt(1500);
    }

    private static int to(int from) {
        int span = random.nextInt(4) == 0 ? random.nextInt(20000) : random.nextInt(600);
        return random.nextInt(50) == 0 ? from - 1 : Math.min(Model.LAST, from + span);
    }

    /** Calls that make the register fuller: entries, mentions and kin. */
    private static void grow(int run, int at) {
        int kind = random.nextInt(10) < 6 ? 0 : random.nextInt(4);
        int from = from();
        int to = to(from);
        int side = random.nextInt(2);
        switch (random.nextInt(5)) {
            case 0:
                both(run, at, "enter", () -> book.enter(kind, from, to, side), () -> model.enter(kind, from, to, side));
                break;
            case 1:
            case 2:
                int entry = entry();
                int role = random.nextInt(3);
                both(run, at, "mention", () -> book.mention(entry, role), () -> model.mention(entry, role));
                break;
            case 3:
                call(run, at, 9);
                break;
            default:
                int child = model.held(entry(), 0);
                int parent = model.held(entry(), 1 + random.nextInt(2));
                both(run, at, "join " + child + " " + parent, () -> book.join(child, parent, 1),
                        () -> model.join(child, parent, 1));
                break;
        }
    }

    private static void call(int run, int at, int which) {
        if (which < 25) {
            change(run, at, which);
        } else {
            ask(run, at, which);
        }
    }

    private static void change(int run, int at, int which) {
        int a = entry();
        int b = entry();
        int m = mention();
        int n = mention();
        int x = some(10);
        int from = from();
        int to = to(from);
        int kind = some(4);
        int role = some(3);
        int otherKind = some(4);
        int otherRole = some(3);
        int least = random.nextInt(6) * 400 - 800;
        switch (which) {
            case 4: case 5:
                for (int sign : signs()) {
                    both(run, at, "type", () -> book.type(sign), () -> model.type(sign));
                }
                break;
            case 6: both(run, at, "wipe", () -> book.wipe(), () -> model.wipe()); break;
            case 8: case 9: pen(run, at); break;
            case 10:
                both(run, at, "enter", () -> book.enter(kind, from, to, x % 2), () -> model.enter(kind, from, to, x % 2));
                break;
            case 11: both(run, at, "mention", () -> book.mention(a, role), () -> model.mention(a, role)); break;
            case 12: both(run, at, "put", () -> book.put(a, from, to), () -> model.put(a, from, to)); break;
            case 13: both(run, at, "age", () -> book.age(a, x * 7 - 1), () -> model.age(a, x * 7 - 1)); break;
            case 14:
                if (random.nextInt(4) == 0) {
                    both(run, at, "close", () -> book.close(a), () -> model.close(a));
                }
                break;
            case 15: both(run, at, "twins", () -> book.twins(a, b), () -> model.twins(a, b)); break;
            case 16: both(run, at, "same", () -> book.same(a, b), () -> model.same(a, b)); break;
            case 17: both(run, at, "demand", () -> book.demand(a, b, least), () -> model.demand(a, b, least)); break;
            case 18: both(run, at, "undemand", () -> book.undemand(x), () -> model.undemand(x)); break;
            case 19: both(run, at, "join " + m + " " + n, () -> book.join(m, n, x), () -> model.join(m, n, x)); break;
            case 20: both(run, at, "part " + m + " " + n, () -> book.part(m, n), () -> model.part(m, n)); break;
            case 21: both(run, at, "unsay", () -> book.unsay(x), () -> model.unsay(x)); break;
            case 22: both(run, at, "nick", () -> book.nick(m, n), () -> model.nick(m, n)); break;
            case 23:
                int like = 1 + some(3);
                both(run, at, "match", () -> book.match(kind, role, otherKind, otherRole, like),
                        () -> model.match(kind, role, otherKind, otherRole, like));
                break;
            case 24: both(run, at, "undo", () -> book.undo(), () -> model.undo()); break;
            default: both(run, at, "knock", () -> book.knock(), () -> model.knock()); break;
        }
    }

    private static int[] signs() {
        String form = random.nextInt(3) == 0 ? "99.9.9999l" : "19.12.1677n";
        int[] row = new int[1 + random.nextInt(form.length())];
        boolean isWhole = random.nextInt(2) == 0;
        for (int i = 0; i < row.length; i++) {
            int sign = "0123456789.nol".indexOf(form.charAt(i));
            row[i] = sign == 9 ? random.nextInt(10) : random.nextInt(30) == 0 ? some(14) : sign;
        }
        return isWhole ? row : new int[] {some(14)};
    }

    /** Few names, so that many are alike. */
    private static void pen(int run, int at) {
        int[] first = {13, 10, 1, 2, 0};
        int[] second = {1, 15, 5, 0};
        int[] third = {18, 12, 14, 0};
        int a = first[random.nextInt(5)];
        int b = a == 0 ? some(2) * random.nextInt(2) : second[random.nextInt(4)];
        int c = b == 0 ? 0 : third[random.nextInt(4)];
        int d = c == 0 ? 0 : random.nextInt(3) == 0 ? random.nextInt(28) : c;
        int e = d == 0 ? 0 : random.nextInt(27);
        int f = e == 0 ? 0 : random.nextInt(27);
        both(run, at, "pen", () -> book.pen(a, b, c, d, e, f), () -> model.pen(a, b, c, d, e, f));
        both(run, at, "key", () -> book.key(), () -> model.key());
    }

    private static void ask(int run, int at, int which) {
        int a = entry();
        int b = entry();
        int m = mention();
        int n = mention();
        int x = some(12);
        boolean is = random.nextBoolean();
        int day = random.nextInt(Model.LAST + 3) - 1;
        int year = 1598 + random.nextInt(205);
        switch (which) {
            case 25: both(run, at, "fault", () -> book.fault(), () -> model.fault()); break;
            case 26: both(run, at, "person", () -> book.person(m), () -> model.person(m)); break;
            case 27: both(run, at, "likeness", () -> book.likeness(m, n), () -> model.likeness(m, n)); break;
            case 28: both(run, at, "saying", () -> book.saying(x), () -> model.saying(x)); break;
            case 29: both(run, at, "mentions", () -> book.mentions(m), () -> model.mentions(m)); break;
            case 30: both(run, at, "bound", () -> book.bound(a, is), () -> model.bound(a, is)); break;
            case 31: both(run, at, "apart", () -> book.apart(a, b), () -> model.apart(a, b)); break;
            case 32: both(run, at, "clash " + is, () -> book.clash(is), () -> model.clash(is)); break;
            case 33: both(run, at, "degree", () -> book.degree(m, n, is), () -> model.degree(m, n, is)); break;
            case 34: both(run, at, "bars", () -> book.bars(m, n), () -> model.bars(m, n)); break;
            case 35: both(run, at, "leave", () -> book.leave(m, n), () -> model.leave(m, n)); break;
            case 36: both(run, at, "common", () -> book.common(m, n), () -> model.common(m, n)); break;
            case 37: both(run, at, "line", () -> book.line(m, is), () -> model.line(m, is)); break;
            case 38: both(run, at, "forebear", () -> book.forebear(m, x), () -> model.forebear(m, x)); break;
            case 39: both(run, at, "number", () -> book.number(m, n), () -> model.number(m, n)); break;
            case 40: both(run, at, "letters", () -> book.letters(m, n), () -> model.letters(m, n)); break;
            case 41: both(run, at, "tree", () -> book.tree(m), () -> model.tree(m)); break;
            case 42: both(run, at, "loops", () -> book.loops(m), () -> model.loops(m)); break;
            case 43: both(run, at, "alive", () -> book.alive(m, day), () -> model.alive(m, day)); break;
            case 44: both(run, at, "household", () -> book.household(a, year), () -> model.household(a, year)); break;
            case 45: both(run, at, "gap", () -> book.gap(x % 3, 1 + day % 200), () -> model.gap(x % 3, 1 + day % 200)); break;
            case 46: both(run, at, "ofEntry", () -> book.ofEntry(a, x), () -> model.ofEntry(a, x)); break;
            case 47: both(run, at, "ofMention", () -> book.ofMention(m, x), () -> model.ofMention(m, x)); break;
            case 48: both(run, at, "house", () -> book.house(x), () -> model.house(x)); break;
            case 49: both(run, at, "isSound", () -> book.isSound(), () -> model.isSound()); break;
            default: both(run, at, "told", () -> book.told(), () -> model.told()); break;
        }
    }
}
