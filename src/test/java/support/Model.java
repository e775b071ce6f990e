import java.math.BigInteger;
import java.util.ArrayDeque;
import java.util.ArrayList;
import java.util.Arrays;
import java.util.Collections;
import java.util.HashMap;
import java.util.HashSet;
import java.util.List;
import java.util.Map;
import java.util.Set;
import java.util.TreeMap;
import java.util.TreeSet;
import java.util.regex.Matcher;
import java.util.regex.Pattern;

/**
 * The register once more, written from the document by other means than the program: days are counted
 * off one by one, names are texts, sets are gone through all, kin is looked up step by step.
 */
final class Model {
    static final int LAST = 73413;

    record Entry(int kind, int from, int to, int book, int age, boolean closed) {
    }

    record Mention(int entry, int role, String name) {
    }

    /** A pair with a value; the value of a saying is its reason, or -1 if it parts. */
    record Pair(int first, int second, int value) {
        boolean isOf(int one, int two) {
            return (first == one && second == two) || (first == two && second == one);
        }
    }

    record Date(int d, int m, int y) {
    }

    record State(List<Entry> entries, List<Mention> mentions, List<Pair> sayings, List<Pair> twins,
            List<Pair> sames, List<Pair> told, List<Set<String>> nicks) {
        State copy() {
            return new State(new ArrayList<>(entries), new ArrayList<>(mentions), new ArrayList<>(sayings),
                    new ArrayList<>(twins), new ArrayList<>(sames), new ArrayList<>(told),
                    new ArrayList<>(nicks));
        }
    }

    private static final List<List<Date>> DATES = List.of(counted(0), counted(1), counted(2));
    private static final List<Map<Date, Integer>> DAYS =
            List.of(inverted(DATES.get(0)), inverted(DATES.get(1)), inverted(DATES.get(2)));

    State s = new State(new ArrayList<>(), new ArrayList<>(), new ArrayList<>(), new ArrayList<>(),
            new ArrayList<>(), new ArrayList<>(), new ArrayList<>());
    final ArrayDeque<State> steps = new ArrayDeque<>();
    String slip = "";
    String pen = "";
    int refusals = 0;
    int knocks = 0;

    // ---- days

    private static List<Date> counted(int style) {
        List<Date> all = new ArrayList<>();
        int d = style == 0 ? 1 : 22;
        int m = style == 0 ? 1 : 12;
        int y = style == 0 ? 1600 : 1599;
        for (int day = 0; day <= LAST; day++) {
            boolean isEarly = m < 3 || (m == 3 && d < 25);
            all.add(new Date(d, m, style == 2 && isEarly ? y - 1 : y));
            boolean isLeap = style == 0 ? (y % 400 == 0 || (y % 4 == 0 && y % 100 != 0)) : y % 4 == 0;
            int length = m == 2 ? (isLeap ? 29 : 28) : List.of(4, 6, 9, 11).contains(m) ? 30 : 31;
            d++;
            if (d > length) {
                d = 1;
                m++;
            }
            if (m > 12) {
                m = 1;
                y++;
            }
        }
        return all;
    }

    private static Map<Date, Integer> inverted(List<Date> dates) {
        Map<Date, Integer> days = new HashMap<>();
        for (int day = 0; day < dates.size(); day++) {
            days.put(dates.get(day), day);
        }
        return days;
    }

    private static void argument(boolean isWrong) {
        if (isWrong) {
            throw new IllegalArgumentException();
        }
    }

    private static void state(boolean isWrong) {
        if (isWrong) {
            throw new IllegalStateException();
        }
    }

    private static void index(int i, int size) {
        if (i < 0 || i >= size) {
            throw new IndexOutOfBoundsException();
        }
    }

    int day(int style, int d, int m, int y) {
        argument(style < 0 || style > 2);
        return DAYS.get(style).getOrDefault(new Date(d, m, y), -1);
    }

    Date dateOf(int style, int day) {
        return DATES.get(style).get(day);
    }

    String date(int style, int day) {
        argument(style < 0 || style > 2 || day < 0 || day > LAST);
        Date date = DATES.get(style).get(day);
        return date.d + "." + date.m + "." + date.y;
    }

    int feast(int style, int which, int year) {
        argument(style < 0 || style > 1 || which < 0 || which > 6 || year < 1600 || year > 1800);
        int[][] fixed = {{2, 2}, {25, 3}, {11, 11}, {25, 12}};
        if (which > 2) {
            return day(style, fixed[which - 3][0], fixed[which - 3][1], year);
        }
        int day = easter(style, year) + new int[] {0, 39, 49}[which];
        return day > LAST ? -1 : day;
    }

    /** By Gauss for the new style; for the old one the Sunday behind the full moon, counted off. */
    private int easter(int style, int y) {
        int a = y % 19;
        if (style == 1) {
            int moon = day(1, 21, 3, y) + (19 * a + 15) % 30;
            int sunday = moon + 1;
            while (sunday % 7 != 1) {
                sunday++;
            }
            return sunday;
        }
        int d = (19 * a + (y < 1700 ? 22 : 23)) % 30;
        int n = y < 1700 ? 2 : y < 1800 ? 3 : 4;
        int e = (2 * (y % 4) + 4 * (y % 7) + 6 * d + n) % 7;
        int behind = d + e;
        if ((d == 29 && e == 6) || (d == 28 && e == 6 && a > 10)) {
            behind -= 7;
        }
        return day(0, 22, 3, y) + behind;
    }

    int type(int sign) {
        argument(sign < 0 || sign > 13);
        state(slip.length() >= 14);
        slip += "0123456789.nol".charAt(sign);
        return slip.length();
    }

    int wipe() {
        int before = slip.length();
        slip = "";
        return before;
    }

    int fault() {
        Pattern form = Pattern.compile("(\\d\\d?)\\.(\\d\\d?)\\.(\\d{4})([nol])");
        for (int i = 0; i < slip.length(); i++) {
            Matcher matcher = form.matcher(slip.substring(0, i + 1));
            if (!matcher.matches() && !matcher.hitEnd()) {
                return i;
            }
        }
        Matcher matcher = form.matcher(slip);
        if (!matcher.matches()) {
            return slip.length();
        }
        return told() == -1 ? 99 : -1;
    }

    int told() {
        if (!slip.matches("\\d\\d?\\.\\d\\d?\\.\\d{4}[nol]")) {
            return -1;
        }
        int style = "nol".indexOf(slip.charAt(slip.length() - 1));
        String[] parts = slip.substring(0, slip.length() - 1).split("\\.");
        return day(style, Integer.parseInt(parts[0]), Integer.parseInt(parts[1]), Integer.parseInt(parts[2]));
    }

    // ---- names

    int pen(int a, int b, int c, int d, int e, int f) {
        StringBuilder name = new StringBuilder();
        boolean isEnded = false;
        for (int letter : new int[] {a, b, c, d, e, f}) {
            argument(letter < 0 || letter > 26 || (isEnded && letter > 0));
            isEnded = letter == 0;
            name.append(letter == 0 ? "" : String.valueOf((char) ('a' + letter - 1)));
        }
        pen = name.toString();
        return pen.length();
    }

    private static int sound(char letter) {
        String[] groups = {"bp", "fvw", "cgjkqx", "sz", "dt", "l", "mn", "r"};
        for (int i = 0; i < groups.length; i++) {
            if (groups[i].indexOf(letter) >= 0) {
                return i + 1;
            }
        }
        return 0;
    }

    static String keyOf(String name) {
        StringBuilder row = new StringBuilder();
        for (int i = 0; i < name.length(); i++) {
            int own = sound(name.charAt(i));
            if (i == 0 || (own != 0 && own != sound(name.charAt(i - 1)))) {
                row.append(own);
            }
        }
        return row.length() > 4 ? row.substring(0, 4) : row.toString();
    }

    String key() {
        return pen.isEmpty() ? "+" : keyOf(pen);
    }

    // ---- entries

    private void step() {
        steps.addLast(s.copy());
        if (steps.size() > 8) {
            steps.removeFirst();
        }
    }

    private static boolean isNoSpan(int from, int to) {
        return from < 0 || from > LAST || to < 0 || to > LAST || to < from;
    }

    int enter(int kind, int from, int to, int book) {
        argument(kind < 0 || kind > 3 || isNoSpan(from, to) || book < 0 || book > 1);
        state(s.entries.size() >= 10);
        step();
        s.entries.add(new Entry(kind, from, to, book, -1, false));
        return s.entries.size() - 1;
    }

    int mention(int entry, int role) {
        index(entry, s.entries.size());
        Entry e = s.entries.get(entry);
        argument(role < 0 || role > (e.kind == 3 ? 1 : 2));
        state(e.closed || held(entry, role) >= 0 || s.mentions.size() >= 24);
        step();
        s.mentions.add(new Mention(entry, role, pen));
        return s.mentions.size() - 1;
    }

    int held(int entry, int role) {
        for (int i = 0; i < s.mentions.size(); i++) {
            if (s.mentions.get(i).entry == entry && s.mentions.get(i).role == role) {
                return i;
            }
        }
        return -1;
    }

    int put(int entry, int from, int to) {
        index(entry, s.entries.size());
        argument(isNoSpan(from, to));
        Entry e = s.entries.get(entry);
        state(e.closed);
        step();
        s.entries.set(entry, new Entry(e.kind, from, to, e.book, e.age, false));
        return (to - from + 1) - (e.to - e.from + 1);
    }

    int age(int entry, int years) {
        index(entry, s.entries.size());
        Entry e = s.entries.get(entry);
        argument(e.kind < 2 || years < -1 || years > 99);
        state(e.closed);
        step();
        s.entries.set(entry, new Entry(e.kind, e.from, e.to, e.book, years, false));
        return e.age;
    }

    int close(int entry) {
        index(entry, s.entries.size());
        step();
        Entry e = s.entries.get(entry);
        s.entries.set(entry, new Entry(e.kind, e.from, e.to, e.book, e.age, true));
        return e.closed ? 0 : 1;
    }

    private static boolean isIn(List<Pair> pairs, int one, int two) {
        return pairs.stream().anyMatch(pair -> pair.isOf(one, two));
    }

    int twins(int entry, int other) {
        index(entry, s.entries.size());
        index(other, s.entries.size());
        argument(entry == other || s.entries.get(entry).kind != 0 || s.entries.get(other).kind != 0);
        state(s.twins.size() >= 4 || isIn(s.twins, entry, other) || isIn(s.sames, entry, other));
        step();
        s.twins.add(new Pair(entry, other, 0));
        return s.twins.size();
    }

    int same(int entry, int other) {
        index(entry, s.entries.size());
        index(other, s.entries.size());
        Entry e = s.entries.get(entry);
        Entry f = s.entries.get(other);
        argument(e.kind != f.kind || e.book == f.book);
        state(s.sames.size() >= 4 || isIn(s.twins, entry, other) || isIn(s.sames, entry, other));
        step();
        s.sames.add(new Pair(entry, other, 0));
        return s.sames.size();
    }

    int demand(int first, int second, int least) {
        index(first, s.entries.size());
        index(second, s.entries.size());
        argument(first == second || least < -40000 || least > 40000);
        state(s.told.size() >= 6);
        step();
        s.told.add(new Pair(first, second, least));
        return s.told.size();
    }

    int undemand(int nth) {
        index(nth, s.told.size());
        step();
        s.told.remove(nth);
        return s.told.size();
    }

    // ---- sayings

    private int refused() {
        refusals++;
        return -9;
    }

    private List<Pair> with(int mention, int other, int value) {
        List<Pair> sayings = new ArrayList<>(s.sayings);
        sayings.add(new Pair(Math.min(mention, other), Math.max(mention, other), value));
        return sayings;
    }

    int join(int mention, int other, int reason) {
        index(mention, s.mentions.size());
        index(other, s.mentions.size());
        argument(mention == other || reason < 0 || reason > 9);
        state(s.sayings.size() >= 12
                || s.sayings.stream().anyMatch(x -> x.value >= 0 && x.isOf(mention, other)));
        List<Pair> trial = with(mention, other, reason);
        if (contradict(trial)) {
            return refused();
        }
        step();
        s.sayings.clear();
        s.sayings.addAll(trial);
        return person(mention);
    }

    int part(int mention, int other) {
        index(mention, s.mentions.size());
        index(other, s.mentions.size());
        argument(mention == other);
        state(s.sayings.size() >= 12
                || s.sayings.stream().anyMatch(x -> x.value < 0 && x.isOf(mention, other)));
        List<Pair> trial = with(mention, other, -1);
        if (contradict(trial)) {
            return refused();
        }
        step();
        s.sayings.clear();
        s.sayings.addAll(trial);
        return s.sayings.size();
    }

    int unsay(int nth) {
        index(nth, s.sayings.size());
        step();
        s.sayings.remove(nth);
        return persons().size();
    }

    int nick(int mention, int other) {
        index(mention, s.mentions.size());
        index(other, s.mentions.size());
        state(s.nicks.size() >= 6);
        String one = keyOf(s.mentions.get(mention).name);
        String two = keyOf(s.mentions.get(other).name);
        if (one.isEmpty() || two.isEmpty() || one.equals(two) || s.nicks.contains(Set.of(one, two))) {
            return refused();
        }
        step();
        s.nicks.add(Set.of(one, two));
        return s.nicks.size();
    }

    private List<Integer> sort(int kind, int role) {
        List<Integer> all = new ArrayList<>();
        for (int i = 0; i < s.mentions.size(); i++) {
            Mention m = s.mentions.get(i);
            if (m.role == role && s.entries.get(m.entry).kind == kind) {
                all.add(i);
            }
        }
        return all;
    }

    int match(int kind, int role, int otherKind, int otherRole, int least) {
        argument(kind < 0 || kind > 3 || otherKind < 0 || otherKind > 3 || role < 0 || role > 2
                || otherRole < 0 || otherRole > 2 || (kind == otherKind && role == otherRole)
                || least < 1 || least > 3);
        step();
        int joined = 0;
        List<Integer> ones = sort(kind, role);
        List<Integer> twos = sort(otherKind, otherRole);
        while (s.sayings.size() < 12) {
            int[] best = null;
            for (int i : ones) {
                for (int j : twos) {
                    List<Integer> p = group(s.sayings, i);
                    List<Integer> q = group(s.sayings, j);
                    int like = likeness(i, j);
                    if (like < least || p.contains(j) || !Collections.disjoint(p, twos)
                            || !Collections.disjoint(q, ones) || contradict(with(i, j, 0))) {
                        continue;
                    }
                    if (best == null || like > best[0]) {
                        best = new int[] {like, i, j};
                    }
                }
            }
            if (best == null) {
                break;
            }
            List<Pair> trial = with(best[1], best[2], 0);
            s.sayings.clear();
            s.sayings.addAll(trial);
            joined++;
        }
        return joined;
    }

    int undo() {
        state(steps.isEmpty());
        s = steps.removeLast();
        return steps.size();
    }

    int knock() {
        return ++knocks;
    }

    // ---- persons

    /** All mentions that hang together with one, by rising numbers. */
    private List<Integer> group(List<Pair> sayings, int mention) {
        TreeSet<Integer> seen = new TreeSet<>(List.of(mention));
        boolean isMore = true;
        while (isMore) {
            isMore = false;
            for (Pair x : sayings) {
                if (x.value >= 0 && seen.contains(x.first) != seen.contains(x.second)) {
                    seen.add(x.first);
                    seen.add(x.second);
                    isMore = true;
                }
            }
        }
        return new ArrayList<>(seen);
    }

    private int sexOfMention(int mention) {
        Mention m = s.mentions.get(mention);
        int kind = s.entries.get(m.entry).kind;
        return kind == 3 ? 0 : kind == 2 ? List.of(1, 2, 0).get(m.role) : m.role;
    }

    boolean contradict(List<Pair> sayings) {
        for (Pair x : sayings) {
            if (x.value < 0 && group(sayings, x.first).contains(x.second)) {
                return true;
            }
        }
        for (int p = 0; p < s.mentions.size(); p++) {
            List<Integer> all = group(sayings, p);
            for (int i : all) {
                for (int j : all) {
                    Mention a = s.mentions.get(i);
                    Mention b = s.mentions.get(j);
                    int kind = s.entries.get(a.entry).kind;
                    boolean isBoth = sexOfMention(i) == 1 && sexOfMention(j) == 2;
                    boolean isOneEntry = i != j && a.entry == b.entry;
                    boolean isTwice = i != j && a.role == 0 && b.role == 0 && kind != 2
                            && s.entries.get(b.entry).kind == kind && !isIn(s.sames, a.entry, b.entry);
                    if (isBoth || isOneEntry || isTwice) {
                        return true;
                    }
                }
            }
            if (comesBack(sayings, p)) {
                return true;
            }
        }
        return false;
    }

    private boolean comesBack(List<Pair> sayings, int start) {
        Set<Integer> seen = new HashSet<>();
        List<Integer> open = new ArrayList<>(List.of(start));
        while (!open.isEmpty()) {
            int p = open.remove(open.size() - 1);
            for (int m : group(sayings, p)) {
                Mention child = s.mentions.get(m);
                if (child.role != 0 || s.entries.get(child.entry).kind != 0) {
                    continue;
                }
                for (int role = 1; role <= 2; role++) {
                    int parent = held(child.entry, role);
                    if (parent < 0) {
                        continue;
                    }
                    int q = group(sayings, parent).get(0);
                    if (q == group(sayings, start).get(0)) {
                        return true;
                    }
                    if (seen.add(q)) {
                        open.add(q);
                    }
                }
            }
        }
        return false;
    }

    private int personOf(int mention) {
        return mention < 0 ? -1 : group(s.sayings, mention).get(0);
    }

    int person(int mention) {
        index(mention, s.mentions.size());
        return personOf(mention);
    }

    private TreeSet<Integer> persons() {
        TreeSet<Integer> all = new TreeSet<>();
        for (int i = 0; i < s.mentions.size(); i++) {
            all.add(personOf(i));
        }
        return all;
    }

    private int sexOf(int person) {
        return group(s.sayings, person).stream().mapToInt(this::sexOfMention).max().orElse(0);
    }

    /** The entries of a kind that a person has in one of some roles, by rising numbers. */
    private TreeSet<Integer> has(int person, int kind, Integer... roles) {
        TreeSet<Integer> all = new TreeSet<>();
        for (int m : group(s.sayings, person)) {
            Mention x = s.mentions.get(m);
            if (s.entries.get(x.entry).kind == kind && Arrays.asList(roles).contains(x.role)) {
                all.add(x.entry);
            }
        }
        return all;
    }

    int likeness(int mention, int other) {
        index(mention, s.mentions.size());
        index(other, s.mentions.size());
        String one = s.mentions.get(mention).name;
        String two = s.mentions.get(other).name;
        if (one.isEmpty() || two.isEmpty()) {
            return 0;
        }
        String oneKey = keyOf(one);
        String twoKey = keyOf(two);
        return one.equals(two) ? 3 : oneKey.equals(twoKey) ? 2
                : s.nicks.contains(Set.of(oneKey, twoKey)) ? 1 : 0;
    }

    String saying(int nth) {
        index(nth, s.sayings.size());
        Pair x = s.sayings.get(nth);
        return x.value < 0 ? x.first + "#" + x.second : x.first + "=" + x.second + ":" + x.value;
    }

    private static String spaced(Iterable<Integer> numbers) {
        StringBuilder text = new StringBuilder();
        for (int number : numbers) {
            text.append(text.length() == 0 ? "" : " ").append(number);
        }
        return text.toString();
    }

    String mentions(int mention) {
        index(mention, s.mentions.size());
        return spaced(group(s.sayings, mention));
    }

    // ---- what must be so

    private boolean isAhead(int e, int f) {
        int a = s.entries.get(e).from;
        int b = s.entries.get(f).from;
        return a < b || (a == b && e < f);
    }

    List<Pair> demands() {
        List<Pair> all = new ArrayList<>(s.told);
        for (int person : persons()) {
            demandsOf(person, all);
        }
        for (Pair x : s.twins) {
            all.add(new Pair(x.first, x.second, -1));
            all.add(new Pair(x.second, x.first, -1));
        }
        for (Pair x : s.sames) {
            all.add(new Pair(x.first, x.second, 0));
            all.add(new Pair(x.second, x.first, 0));
        }
        return all;
    }

    /** (first, second, least): the day of the second one less that of the first one. */
    private static void each(List<Pair> all, Set<Integer> firsts, Set<Integer> seconds, int least) {
        for (int first : firsts) {
            for (int second : seconds) {
                all.add(new Pair(first, second, least));
            }
        }
    }

    private void demandsOf(int person, List<Pair> all) {
        Set<Integer> b = has(person, 0, 0);
        Set<Integer> p = has(person, 1, 0);
        Set<Integer> d = has(person, 3, 0);
        Set<Integer> w = has(person, 2, 0, 1);
        Set<Integer> asMother = has(person, 0, 2);
        Set<Integer> asFather = has(person, 0, 1);
        each(all, b, p, 0);
        each(all, b, d, 0);
        each(all, p, d, 0);
        each(all, w, d, 0);
        each(all, b, w, 5110);
        each(all, b, asMother, 4380);
        each(all, asMother, b, -20075);
        each(all, asMother, d, 0);
        each(all, b, asFather, 5110);
        each(all, asFather, d, -300);
        each(all, b, has(person, 1, 1, 2), 2555);
        for (int e : asMother) {
            for (int f : asMother) {
                if (e != f && isAhead(e, f) && !isIn(s.twins, e, f) && !isIn(s.sames, e, f)) {
                    all.add(new Pair(e, f, 270));
                }
            }
        }
        for (int v : w) {
            for (int x : w) {
                if (v == x || !isAhead(v, x) || isIn(s.sames, v, x)) {
                    continue;
                }
                for (int other : persons()) {
                    if (other != person && has(other, 2, 0, 1).contains(v)) {
                        each(all, has(other, 3, 0), Set.of(x), sexOf(person) == 2 ? 270 : 0);
                    }
                }
            }
        }
        Set<Integer> aged = new HashSet<>(has(person, 2, 0));
        aged.addAll(d);
        for (int e : aged) {
            int age = s.entries.get(e).age;
            if (age >= 0) {
                each(all, b, Set.of(e), 365 * age);
                each(all, Set.of(e), b, -366 * (age + 1));
            }
        }
    }

    /**
     * The longest ways from an entry (or from the day 0, by the number of all entries) to all, along
     * demands and spans; null if some way leads round and grows.
     */
    private long[] longest(int start, Set<Integer> inside, List<Pair> demands) {
        int n = s.entries.size();
        List<Pair> edges = new ArrayList<>();
        for (Pair x : demands) {
            if (inside.contains(x.first) && inside.contains(x.second)) {
                edges.add(x);
            }
        }
        for (int e : inside) {
            edges.add(new Pair(n, e, s.entries.get(e).from));
            edges.add(new Pair(e, n, -s.entries.get(e).to));
        }
        long[] far = new long[n + 1];
        Arrays.fill(far, Long.MIN_VALUE);
        far[start] = 0;
        for (int round = 0; round <= n + 2; round++) {
            boolean isMoved = false;
            for (Pair x : edges) {
                if (far[x.first] != Long.MIN_VALUE && far[x.first] + x.value > far[x.second]) {
                    far[x.second] = far[x.first] + x.value;
                    isMoved = true;
                }
            }
            if (!isMoved) {
                return far;
            }
        }
        return null;
    }

    private Set<Integer> everything() {
        Set<Integer> all = new TreeSet<>();
        for (int e = 0; e < s.entries.size(); e++) {
            all.add(e);
        }
        return all;
    }

    boolean isPossible() {
        return longest(s.entries.size(), everything(), demands()) != null;
    }

    int bound(int entry, boolean isLatest) {
        index(entry, s.entries.size());
        int n = s.entries.size();
        if (!isPossible()) {
            return -1;
        }
        return (int) (isLatest ? -longest(entry, everything(), demands())[n]
                : longest(n, everything(), demands())[entry]);
    }

    int apart(int first, int second) {
        index(first, s.entries.size());
        index(second, s.entries.size());
        return isPossible() ? (int) longest(first, everything(), demands())[second] : -99999;
    }

    String clash(boolean isClash) {
        if (isPossible()) {
            return "-";
        }
        List<Pair> demands = demands();
        int n = s.entries.size();
        List<Integer> best = null;
        for (int mask = 0; mask < 1 << n; mask++) {
            List<Integer> in = new ArrayList<>();
            List<Integer> out = new ArrayList<>();
            for (int e = 0; e < n; e++) {
                (((mask >> e) & 1) == 1 ? in : out).add(e);
            }
            if (best != null && in.size() > best.size()) {
                continue;
            }
            boolean isFound = isClash ? longest(n, new TreeSet<>(in), demands) == null
                    : longest(n, new TreeSet<>(out), demands) != null;
            if (isFound && (best == null || in.size() < best.size() || isSmallerRow(in, best))) {
                best = in;
            }
        }
        return spaced(best);
    }

    private static boolean isSmallerRow(List<Integer> one, List<Integer> two) {
        for (int i = 0; i < one.size(); i++) {
            if (!one.get(i).equals(two.get(i))) {
                return one.get(i) < two.get(i);
            }
        }
        return false;
    }

    // ---- kin

    private int parent(int person, int role) {
        if (person < 0) {
            return -1;
        }
        for (int e : has(person, 0, 0)) {
            if (held(e, role) >= 0) {
                return personOf(held(e, role));
            }
        }
        return -1;
    }

    /** Everyone above a person, and itself, with the fewest births. */
    private Map<Integer, Integer> above(int person) {
        Map<Integer, Integer> far = new TreeMap<>(Map.of(person, 0));
        List<Integer> level = List.of(person);
        for (int births = 1; !level.isEmpty(); births++) {
            List<Integer> next = new ArrayList<>();
            for (int p : level) {
                for (int role = 1; role <= 2; role++) {
                    int q = parent(p, role);
                    if (q >= 0 && far.putIfAbsent(q, births) == null) {
                        next.add(q);
                    }
                }
            }
            level = next;
        }
        return far;
    }

    private Set<Integer> forebears(int person) {
        Set<Integer> all = new TreeSet<>(above(person).keySet());
        all.remove(person);
        return all;
    }

    private int degreeOf(int one, int two, boolean isRoman) {
        Map<Integer, Integer> a = above(one);
        Map<Integer, Integer> b = above(two);
        int best = -1;
        for (int z : a.keySet()) {
            if (b.containsKey(z)) {
                int degree = isRoman ? a.get(z) + b.get(z) : Math.max(a.get(z), b.get(z));
                best = best < 0 ? degree : Math.min(best, degree);
            }
        }
        return best;
    }

    int degree(int mention, int other, boolean isRoman) {
        index(mention, s.mentions.size());
        index(other, s.mentions.size());
        return degreeOf(personOf(mention), personOf(other), isRoman);
    }

    private Set<Integer> spouses(int person) {
        Set<Integer> all = new TreeSet<>();
        for (int e = 0; e < s.entries.size(); e++) {
            int groom = personOf(held(e, 0));
            int bride = personOf(held(e, 1));
            if (s.entries.get(e).kind == 2 && groom >= 0 && bride >= 0) {
                if (groom == person) {
                    all.add(bride);
                }
                if (bride == person) {
                    all.add(groom);
                }
            }
        }
        return all;
    }

    private Set<Integer> children(int person) {
        Set<Integer> all = new TreeSet<>();
        for (int p : persons()) {
            if (person >= 0 && (parent(p, 1) == person || parent(p, 2) == person)) {
                all.add(p);
            }
        }
        return all;
    }

    private boolean isGodparentOf(int person, int child) {
        return !Collections.disjoint(has(person, 1, 1, 2), has(child, 1, 0));
    }

    private boolean isGodparentToHouse(int person, int other) {
        return isGodparentOf(person, other)
                || children(other).stream().anyMatch(child -> isGodparentOf(person, child));
    }

    String bars(int mention, int other) {
        index(mention, s.mentions.size());
        index(other, s.mentions.size());
        int a = personOf(mention);
        int b = personOf(other);
        List<String> all = new ArrayList<>();
        int near = degreeOf(a, b, false);
        if (forebears(a).contains(b) || forebears(b).contains(a)) {
            all.add("L");
        } else if (near >= 1 && near <= 4) {
            all.add("K" + near);
        }
        int best = -1;
        for (int[] pair : new int[][] {{a, b}, {b, a}}) {
            for (int spouse : spouses(pair[1])) {
                int degree = spouse == pair[0] ? -1 : degreeOf(pair[0], spouse, false);
                if (degree >= 0 && (best < 0 || degree < best)) {
                    best = degree;
                }
            }
        }
        if (best == 1 || best == 2) {
            all.add("A" + best);
        }
        if (isGodparentToHouse(a, b) || isGodparentToHouse(b, a)) {
            all.add("S");
        }
        return all.isEmpty() ? "-" : String.join(" ", all);
    }

    int leave(int mention, int other) {
        List<String> bars = List.of(bars(mention, other).split(" "));
        int a = personOf(mention);
        int b = personOf(other);
        if (a == b || (sexOf(a) != 0 && sexOf(a) == sexOf(b))
                || !Collections.disjoint(bars, List.of("L", "K1", "K2", "A1"))) {
            return 2;
        }
        return bars.equals(List.of("-")) ? 0 : 1;
    }

    /** A fraction with a power of 2 below: above and below of it. */
    private static BigInteger[] half(BigInteger[] one, BigInteger[] two) {
        return new BigInteger[] {
            one[0].multiply(two[1]).add(two[0].multiply(one[1])),
            one[1].multiply(two[1]).multiply(BigInteger.TWO)
        };
    }

    private BigInteger[] partOf(int a, int b) {
        if (a < 0 || b < 0) {
            return new BigInteger[] {BigInteger.ZERO, BigInteger.ONE};
        }
        if (a == b) {
            return half(new BigInteger[] {BigInteger.ONE, BigInteger.ONE}, partOf(parent(a, 1), parent(a, 2)));
        }
        boolean isUp = forebears(b).contains(a) || (!forebears(a).contains(b) && a < b);
        int low = isUp ? b : a;
        int high = isUp ? a : b;
        return half(partOf(parent(low, 1), high), partOf(parent(low, 2), high));
    }

    String common(int mention, int other) {
        index(mention, s.mentions.size());
        index(other, s.mentions.size());
        BigInteger[] part = partOf(personOf(mention), personOf(other));
        if (part[0].signum() == 0) {
            return "0";
        }
        BigInteger by = part[0].gcd(part[1]);
        return part[0].divide(by) + "/" + part[1].divide(by);
    }

    String line(int mention, boolean isFather) {
        index(mention, s.mentions.size());
        List<String> all = new ArrayList<>();
        for (int p = personOf(mention); p >= 0; p = parent(p, isFather ? 1 : 2)) {
            all.add(String.valueOf(p));
        }
        return String.join("<", all);
    }

    private int numbered(int person, int number) {
        if (number == 1 || person < 0) {
            return person;
        }
        return parent(numbered(person, number / 2), number % 2 + 1);
    }

    int forebear(int mention, int number) {
        index(mention, s.mentions.size());
        argument(number < 1 || number > 4095);
        return numbered(personOf(mention), number);
    }

    int number(int mention, int other) {
        index(mention, s.mentions.size());
        index(other, s.mentions.size());
        int sought = personOf(other);
        int[] all = new int[4096];
        all[1] = personOf(mention);
        for (int number = 1; number <= 4095; number++) {
            if (number > 1) {
                all[number] = parent(all[number / 2], number % 2 + 1);
            }
            if (all[number] == sought) {
                return number;
            }
        }
        return -1;
    }

    String letters(int mention, int other) {
        index(mention, s.mentions.size());
        index(other, s.mentions.size());
        int sought = personOf(other);
        TreeMap<String, Integer> level = new TreeMap<>(Map.of("", personOf(mention)));
        while (!level.isEmpty()) {
            TreeMap<String, Integer> next = new TreeMap<>();
            for (Map.Entry<String, Integer> way : level.entrySet()) {
                if (way.getValue() == sought) {
                    return way.getKey();
                }
                List<Integer> row = new ArrayList<>(children(way.getValue()));
                row.sort((p, q) -> p.equals(q) ? 0 : isAhead(has(p, 0, 0).first(), has(q, 0, 0).first()) ? -1 : 1);
                for (int i = 0; i < row.size(); i++) {
                    next.put(way.getKey() + (char) ('a' + i), row.get(i));
                }
            }
            level = next;
        }
        return "-";
    }

    private String treeOf(int person) {
        if (person < 0) {
            return ".";
        }
        int father = parent(person, 1);
        int mother = parent(person, 2);
        return father < 0 && mother < 0 ? String.valueOf(person)
                : person + "(" + treeOf(father) + "," + treeOf(mother) + ")";
    }

    String tree(int mention) {
        index(mention, s.mentions.size());
        return treeOf(personOf(mention));
    }

    private void countRows(int person, Map<Integer, Integer> rows) {
        for (int role = 1; role <= 2; role++) {
            int q = parent(person, role);
            if (q >= 0) {
                rows.merge(q, 1, Integer::sum);
                countRows(q, rows);
            }
        }
    }

    int loops(int mention) {
        index(mention, s.mentions.size());
        Map<Integer, Integer> rows = new HashMap<>();
        countRows(personOf(mention), rows);
        return (int) rows.values().stream().filter(count -> count > 1).count();
    }

    // ---- alive, households, gaps

    private int aliveOn(int person, int day) {
        Set<Integer> births = has(person, 0, 0);
        Set<Integer> deaths = has(person, 3, 0);
        if (births.stream().anyMatch(e -> bound(e, false) > day)
                || deaths.stream().anyMatch(e -> bound(e, true) < day)) {
            return 0;
        }
        return births.stream().anyMatch(e -> bound(e, true) <= day)
                && deaths.stream().anyMatch(e -> bound(e, false) >= day) ? 2 : 1;
    }

    int alive(int mention, int day) {
        index(mention, s.mentions.size());
        argument(day < 0 || day > LAST);
        return isPossible() ? aliveOn(personOf(mention), day) : -1;
    }

    String household(int entry, int year) {
        index(entry, s.entries.size());
        argument(s.entries.get(entry).kind != 2 || year < 1600 || year > 1800);
        if (!isPossible()) {
            return "-";
        }
        int groom = personOf(held(entry, 0));
        int bride = personOf(held(entry, 1));
        List<Integer> all = new ArrayList<>(List.of(groom, bride));
        Set<Integer> both = children(groom);
        both.retainAll(children(bride));
        for (int child : both) {
            if (has(child, 2, 0, 1).isEmpty()) {
                all.add(child);
            }
        }
        all.removeIf(p -> p < 0 || aliveOn(p, day(0, 1, 7, year)) == 0);
        return spaced(all);
    }

    String gap(int book, int least) {
        argument(book < 0 || book > 1 || least < 1 || least > 999);
        boolean[] isUsed = new boolean[201 * 12];
        for (Entry e : s.entries) {
            if (e.book == book) {
                Date date = DATES.get(0).get(e.from);
                isUsed[(date.y - 1600) * 12 + date.m - 1] = true;
            }
        }
        int last = -1;
        for (int month = 0; month < isUsed.length; month++) {
            if (isUsed[month]) {
                if (last >= 0 && month - last - 1 >= least) {
                    return (1600 + (last + 1) / 12) + "-" + ((last + 1) % 12 + 1) + " " + (month - last - 1);
                }
                last = month;
            }
        }
        return "";
    }

    // ---- what there is

    int ofEntry(int entry, int what) {
        index(entry, s.entries.size());
        argument(what < 0 || what > 9);
        Entry e = s.entries.get(entry);
        int count = (int) s.mentions.stream().filter(m -> m.entry == entry).count();
        return new int[] {e.kind, e.from, e.to, e.book, e.age, e.closed ? 1 : 0, count,
            held(entry, 0), held(entry, 1), held(entry, 2)}[what];
    }

    int ofMention(int mention, int what) {
        index(mention, s.mentions.size());
        argument(what < 0 || what > 8);
        Mention m = s.mentions.get(mention);
        int p = personOf(mention);
        return new int[] {m.entry, m.role, p, sexOf(p), parent(p, 1), parent(p, 2), children(p).size(),
            group(s.sayings, p).size(), m.name.length()}[what];
    }

    int house(int what) {
        argument(what < 0 || what > 11);
        return new int[] {s.entries.size(), s.mentions.size(), persons().size(), s.sayings.size(),
            s.told.size(), isPossible() ? 1 : 0, steps.size(), refusals, knocks, s.twins.size(),
            s.sames.size(), s.nicks.size()}[what];
    }

    /** What the document asks there holds always, by the rules that make the answers. */
    boolean isSound() {
        return true;
    }

    long digest() {
        List<Integer> row = new ArrayList<>();
        for (int what = 0; what <= 11; what++) {
            row.add(house(what));
        }
        for (int e = 0; e < s.entries.size(); e++) {
            for (int what = 0; what <= 9; what++) {
                row.add(ofEntry(e, what));
            }
            row.add(bound(e, false));
            row.add(bound(e, true));
        }
        for (int m = 0; m < s.mentions.size(); m++) {
            for (int what = 0; what <= 8; what++) {
                row.add(ofMention(m, what));
            }
            row.add(loops(m));
            row.add(tree(m).length());
            row.add(line(m, true).length());
        }
        row.add(clash(true).length());
        row.add(clash(false).length());
        for (int i = 0; i < s.mentions.size(); i++) {
            for (int j = i + 1; j < s.mentions.size(); j++) {
                row.addAll(List.of(degree(i, j, true), degree(i, j, false), leave(i, j),
                        common(i, j).length(), likeness(i, j)));
            }
        }
        for (int nth = 0; nth < s.sayings.size(); nth++) {
            row.add(saying(nth).length());
        }
        row.add(fault());
        row.add(key().length());
        row.add(isSound() ? 1 : 0);
        long d = 6511;
        for (int v : row) {
            d = d * 31 + v;
        }
        return d;
    }
}
