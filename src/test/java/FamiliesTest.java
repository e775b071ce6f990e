import java.util.ArrayList;
import java.util.Collections;
import java.util.List;
import java.util.Random;

/** Registers of much kin and of days close to what DEMANDS ask, looked at by the program and the model. */
public final class FamiliesTest {
    private static Random random;
    private static Parishbook book;
    private static Model model;
    private static String name;

    /** The calls that made the book; it is made anew by them when it was asked often, as 512 calls are the most. */
    private static final int MOST_ASKED = 300;
    private static final List<Check.Call> MAKING = new ArrayList<>();
    private static int asked;

    private FamiliesTest() {
    }

    public static void main(String[] args) {
        int runs = args.length > 0 ? Integer.parseInt(args[0]) : 25;
        int first = args.length > 1 ? Integer.parseInt(args[1]) : 1;
        for (int run = first; run < first + runs; run++) {
            begin("families " + run, run);
            families();
            begin("inbred " + run, run);
            inbred();
            for (int i = 0; i < 8; i++) {
                begin("lives " + run + "." + i, run * 8 + i);
                lives();
            }
        }
        Check.end();
    }

    private static void begin(String own, int seed) {
        name = own;
        random = new Random(seed);
        book = new Parishbook();
        model = new Model();
        MAKING.clear();
    }

    private static String both(String what, Check.Call program, Check.Call due) {
        MAKING.add(program);
        String told = Check.told(due);
        Check.due(name + ", " + what, told, program);
        return told;
    }

    private static void ask(String what, Check.Call program, Check.Call due) {
        asked++;
        if (asked > MOST_ASKED) {
            asked = 0;
            book = new Parishbook();
            for (Check.Call call : MAKING) {
                Check.told(call);
            }
        }
        Check.due(name + ", " + what, Check.told(due), program);
    }

    private static void enter(int kind, int from, int to) {
        int side = random.nextInt(2);
        both("enter", () -> book.enter(kind, from, to, side), () -> model.enter(kind, from, to, side));
    }

    private static void mention(int entry, int role) {
        both("mention", () -> book.mention(entry, role), () -> model.mention(entry, role));
    }

    private static String join(int one, int two) {
        return both("join " + one + " " + two, () -> book.join(one, two, 0), () -> model.join(one, two, 0));
    }

    /** Births with most roles, some weddings and baptisms, and joins of parents with all that fit. */
    private static void families() {
        int births = 4 + random.nextInt(4);
        for (int e = 0; e < births; e++) {
            int from = e * 7000 + random.nextInt(500);
            enter(0, from, from + random.nextInt(2000));
        }
        int others = random.nextInt(11 - births);
        for (int i = 0; i < others; i++) {
            int from = random.nextInt(50000);
            enter(random.nextInt(5) == 0 ? 3 : 1 + random.nextInt(2), from, from + random.nextInt(20000));
        }
        for (int e = 0; e < model.s.entries().size(); e++) {
            for (int role = 0; role < 3; role++) {
                if (random.nextInt(8) > 0) {
                    mention(e, role);
                }
            }
        }
        joinAtRandom(30);
        if (random.nextInt(3) == 0) {
            pair();
            joinAtRandom(10);
        }
        askAll();
    }

    private static void pair() {
        for (int i = 0; i < 6; i++) {
            int e = random.nextInt(model.s.entries().size());
            int f = random.nextInt(model.s.entries().size());
            both("same", () -> book.same(e, f), () -> model.same(e, f));
        }
    }

    private static void joinAtRandom(int tries) {
        int count = model.s.mentions().size();
        for (int i = 0; i < tries && count > 1 && model.s.sayings().size() < 12; i++) {
            join(random.nextInt(count), random.nextInt(count));
        }
    }

    /** Generations of brothers and sisters that are each other's spouses, or of parents with children. */
    private static void inbred() {
        List<Integer> men = new ArrayList<>();
        List<Integer> women = new ArrayList<>();
        for (int e = 0; e < 8; e++) {
            int from = e * 6000;
            enter(0, from, from + 3000);
            int child = model.s.mentions().size();
            mention(e, 0);
            parent(e, 1, men);
            parent(e, 2, women);
            (e % 2 == 0 ? men : women).add(child);
        }
        askAll();
    }

    private static void parent(int entry, int role, List<Integer> sex) {
        int own = model.s.mentions().size();
        if (random.nextInt(10) == 0) {
            return;
        }
        mention(entry, role);
        if (!sex.isEmpty()) {
            int back = Math.min(sex.size(), 1 + random.nextInt(2));
            join(own, sex.get(sex.size() - back));
        }
    }

    /** Few entries, their days as far apart as some demand asks, or by a day off. */
    private static void lives() {
        int[] far = {0, 0, 270, -300, 300, 2555, 4380, 5110, 20075, 365 * 20, 366 * 21, 270, 1};
        int count = 2 + random.nextInt(3);
        List<Integer> days = new ArrayList<>();
        int day = 21000 + random.nextInt(200);
        for (int e = 0; e < count; e++) {
            days.add(day + random.nextInt(3) - 1);
            day += far[random.nextInt(far.length)];
        }
        Collections.shuffle(days, random);
        boolean isWide = random.nextInt(3) == 0;
        for (int e = 0; e < count; e++) {
            int from = isWide ? random.nextInt(10) : days.get(e);
            int kind = random.nextInt(random.nextBoolean() ? 4 : 1 + random.nextInt(4));
            enter(kind, from, isWide ? Model.LAST : from + random.nextInt(2));
        }
        for (int e = 0; e < count; e++) {
            int own = e;
            for (int role = 0; role < 3; role++) {
                if (random.nextInt(4) > 0) {
                    mention(e, role);
                }
            }
            if (random.nextInt(3) == 0) {
                both("age", () -> book.age(own, 20), () -> model.age(own, 20));
            }
        }
        joinAtRandom(8);
        if (random.nextInt(3) == 0) {
            int e = random.nextInt(count);
            int f = random.nextInt(count);
            both("same", () -> book.same(e, f), () -> model.same(e, f));
            both("twins", () -> book.twins(e, f), () -> model.twins(e, f));
            both("demand", () -> book.demand(e, f, 1), () -> model.demand(e, f, 1));
            joinAtRandom(8);
        }
        askDays();
    }

    private static void askDays() {
        asked = 0;
        ask("clash", () -> book.clash(true), () -> model.clash(true));
        ask("wrong", () -> book.clash(false), () -> model.clash(false));
        ask("isSound", () -> book.isSound(), () -> model.isSound());
        for (int e = 0; e < model.s.entries().size(); e++) {
            int entry = e;
            ask("earliest", () -> book.bound(entry, false), () -> model.bound(entry, false));
            ask("latest", () -> book.bound(entry, true), () -> model.bound(entry, true));
            for (int f = 0; f < model.s.entries().size(); f++) {
                int other = f;
                ask("apart", () -> book.apart(entry, other), () -> model.apart(entry, other));
            }
            int year = 1600 + random.nextInt(201);
            ask("household", () -> book.household(entry, year), () -> model.household(entry, year));
        }
    }

    private static void askAll() {
        int count = model.s.mentions().size();
        askDays();
        for (int i = 0; i < count; i++) {
            int m = i;
            ask("tree", () -> book.tree(m), () -> model.tree(m));
            ask("loops", () -> book.loops(m), () -> model.loops(m));
            ask("father line", () -> book.line(m, true), () -> model.line(m, true));
            ask("mother line", () -> book.line(m, false), () -> model.line(m, false));
            int number = 1 + random.nextInt(random.nextBoolean() ? 4095 : 15);
            ask("forebear", () -> book.forebear(m, number), () -> model.forebear(m, number));
            int day = random.nextInt(Model.LAST + 1);
            ask("alive", () -> book.alive(m, day), () -> model.alive(m, day));
            for (int j = 0; j < count; j++) {
                askPair(i, j);
            }
        }
        ask("digest", () -> book.digest(), () -> model.digest());
    }

    private static void askPair(int m, int n) {
        String what = " " + m + " " + n;
        ask("roman" + what, () -> book.degree(m, n, true), () -> model.degree(m, n, true));
        ask("degree" + what, () -> book.degree(m, n, false), () -> model.degree(m, n, false));
        ask("bars" + what, () -> book.bars(m, n), () -> model.bars(m, n));
        ask("leave" + what, () -> book.leave(m, n), () -> model.leave(m, n));
        ask("common" + what, () -> book.common(m, n), () -> model.common(m, n));
        ask("number" + what, () -> book.number(m, n), () -> model.number(m, n));
        ask("letters" + what, () -> book.letters(m, n), () -> model.letters(m, n));
    }
}
