import java.lang.reflect.InvocationTargetException;
import java.lang.reflect.Method;
import java.util.ArrayList;
import java.util.Arrays;
import java.util.List;

/**
 * Every call with every combination of arguments at their edges and beside them, in an empty register, in
 * small ones and in a full one: the answer or the exception is that of the model, and a call that throws
 * changes nothing.
 */
public final class GridTest {
    /** An object is asked 512 times at most. */
    private static final int MOST_CALLS = 380;
    private static final int LAST = 73413;
    private static final List<String> STEPS = List.of("enter", "mention", "put", "age", "close", "twins", "same",
            "demand", "undemand", "join", "part", "unsay", "nick", "match");

    private static List<Object[]> script;
    private static Parishbook book;
    private static Model model;
    private static int calls;

    private GridTest() {
    }

    public static void main(String[] args) {
        all("empty", new ArrayList<>());
        all("small", small());
        List<Object[]> closed = small();
        for (int e = 0; e < 4; e++) {
            closed.add(row("close", e));
        }
        all("closed", closed);
        List<Object[]> impossible = small();
        impossible.add(row("demand", 3, 0, 0));
        all("impossible", impossible);
        all("full", full());
        Check.end();
    }

    private static Object[] row(Object... row) {
        return row;
    }

    private static void mention(List<Object[]> rows, String name, int entry, int roles) {
        Object[] pen = {"pen", 0, 0, 0, 0, 0, 0};
        for (int i = 0; i < name.length(); i++) {
            pen[i + 1] = name.charAt(i) - 'a' + 1;
        }
        rows.add(pen);
        for (int role = 0; role < roles; role++) {
            rows.add(row("mention", entry, role));
        }
    }

    private static List<Object[]> small() {
        List<Object[]> rows = new ArrayList<>();
        String[] names = {"bob", "fay", "bab", ""};
        for (int kind = 0; kind < 4; kind++) {
            rows.add(row("enter", kind, 1000 * kind, 40000 + 1000 * kind, kind / 3));
            mention(rows, names[kind], kind, kind == 3 ? 2 : 3);
        }
        rows.add(row("enter", 0, 500, 600, 1));
        rows.add(row("age", 3, 30));
        rows.add(row("twins", 0, 4));
        rows.add(row("demand", 0, 3, 400));
        rows.add(row("nick", 0, 3));
        rows.add(row("join", 0, 3, 1));
        rows.add(row("join", 0, 9, 2));
        rows.add(row("part", 1, 4));
        rows.add(row("type", 3));
        return rows;
    }

    private static List<Object[]> full() {
        List<Object[]> rows = new ArrayList<>();
        int[] kinds = {0, 0, 0, 0, 0, 0, 1, 1, 2, 3};
        String[] names = {"bob", "fay", "cecil", "sue", "tom", "lil", "mary", "", "bab", "anselm"};
        for (int e = 0; e < 10; e++) {
            rows.add(row("enter", kinds[e], e, LAST - e, e % 2));
            mention(rows, names[e], e, e < 6 ? 3 : e == 7 ? 0 : 2);
        }
        int[][] twins = {{0, 2}, {2, 4}, {0, 4}, {3, 5}};
        for (int i = 0; i < 4; i++) {
            rows.add(row("twins", twins[i][0], twins[i][1]));
            rows.add(row("same", 2 * i, 2 * i + 1));
        }
        for (int i = 0; i < 6; i++) {
            rows.add(row("demand", i, 9 - i % 2, 100 * i));
            rows.add(row("nick", i < 5 ? 0 : 3, i < 5 ? 3 * i + 3 : 6));
        }
        int[][] joins = {{0, 18}, {6, 20}, {9, 21}, {1, 7}, {2, 8}, {4, 10}, {12, 22}};
        for (int[] pair : joins) {
            rows.add(row("join", pair[0], pair[1], pair[0] % 10));
        }
        int[][] parts = {{0, 3}, {13, 16}, {14, 17}, {20, 23}, {5, 11}};
        for (int[] pair : parts) {
            rows.add(row("part", pair[0], pair[1]));
        }
        for (int sign = 0; sign < 14; sign++) {
            rows.add(row("type", sign));
        }
        return rows;
    }

    private static void anew() {
        book = new Parishbook();
        model = new Model();
        calls = script.size();
        for (Object[] row : script) {
            String due = told(model, row);
            Check.due("making " + row[0], due, () -> told(book, row));
        }
    }

    /** The answer of a call by its name, or the name of what it throws, with "throws." ahead. */
    private static String told(Object target, Object[] row) {
        for (Method method : target.getClass().getDeclaredMethods()) {
            if (method.getName().equals(row[0]) && method.getParameterCount() == row.length - 1) {
                try {
                    Object[] arguments = Arrays.copyOfRange(row, 1, row.length);
                    method.setAccessible(true);
                    return String.valueOf(method.invoke(target, arguments));
                } catch (InvocationTargetException e) {
                    return "throws." + e.getCause().getClass().getSimpleName();
                } catch (IllegalAccessException e) {
                    return "no such call of " + target.getClass();
                }
            }
        }
        return "no such call of " + target.getClass();
    }

    private static void one(String where, Object[] row) {
        if (calls > MOST_CALLS) {
            anew();
        }
        calls += 4;
        String what = where + ", " + Arrays.toString(row);
        String due = told(model, row);
        boolean isThrown = due.startsWith("throws.");
        long before = isThrown ? book.digest() : 0;
        Check.due(what, due, () -> told(book, row));
        if (isThrown) {
            Check.due("all behind " + what, before, () -> book.digest());
        } else if (STEPS.contains(row[0]) && !due.equals("-9")) {
            Check.due("undo of " + what, model.undo(), () -> book.undo());
        }
    }

    private static void each(String where, String name, Object[]... values) {
        Object[] row = new Object[values.length + 1];
        row[0] = name;
        fill(where, row, values, 0);
    }

    private static void fill(String where, Object[] row, Object[][] values, int place) {
        if (place == values.length) {
            one(where, row.clone());
            return;
        }
        for (Object value : values[place]) {
            row[place + 1] = value;
            fill(where, row, values, place + 1);
        }
    }

    private static Object[] some(Integer... values) {
        return values;
    }

    /** Numbers from 0 on: those beside, the first two, one in the middle, the last two. */
    private static Object[] numbers(int count) {
        List<Integer> all = new ArrayList<>();
        for (int value : new int[] {-1, 0, 1, count / 2, count - 2, count - 1, count}) {
            if (!all.contains(value)) {
                all.add(value);
            }
        }
        return all.toArray();
    }

    private static void all(String where, List<Object[]> rows) {
        script = rows;
        anew();
        Object[] entries = numbers(model.s.entries().size());
        Object[] mentions = numbers(model.s.mentions().size());
        Object[] days = some(-1, 0, 1, LAST, LAST + 1);
        Object[] flags = {true, false};
        changes(where, entries, days);
        sayings(where, mentions);
        for (String name : new String[] {"person", "mentions", "tree", "loops"}) {
            each(where, name, mentions);
        }
        for (String name : new String[] {"likeness", "bars", "leave", "common", "number", "letters"}) {
            each(where, name, mentions, mentions);
        }
        each(where, "degree", mentions, mentions, flags);
        each(where, "line", mentions, flags);
        each(where, "forebear", mentions, some(-1, 0, 1, 2, 3, 4, 2047, 4095, 4096));
        each(where, "alive", mentions, days);
        each(where, "saying", numbers(model.s.sayings().size()));
        each(where, "bound", entries, flags);
        each(where, "apart", entries, entries);
        each(where, "clash", flags);
        each(where, "household", entries, some(1599, 1600, 1700, 1800, 1801));
        each(where, "gap", some(-1, 0, 1, 2), some(0, 1, 2, 999, 1000));
        each(where, "ofEntry", entries, numbers(10));
        each(where, "ofMention", mentions, numbers(9));
        each(where, "house", numbers(12));
        each(where, "day", some(-1, 0, 1, 2, 3), some(0, 1, 29, 31), some(0, 2, 12, 13), some(1599, 1600, 1800, 1801));
        each(where, "date", some(-1, 0, 1, 2, 3), days);
        each(where, "feast", some(-1, 0, 1, 2), numbers(7), some(1599, 1600, 1800, 1801));
    }

    private static void changes(String where, Object[] entries, Object[] days) {
        each(where, "enter", numbers(4), days, days, numbers(2));
        each(where, "mention", entries, numbers(3));
        each(where, "put", entries, days, days);
        each(where, "age", entries, some(-2, -1, 0, 99, 100));
        each(where, "close", entries);
        each(where, "twins", entries, entries);
        each(where, "same", entries, entries);
        each(where, "demand", entries, entries, some(-40001, -40000, 0, 40000, 40001));
        each(where, "undemand", numbers(model.s.told().size()));
    }

    private static void sayings(String where, Object[] mentions) {
        each(where, "join", mentions, mentions, some(-1, 0, 9, 10));
        each(where, "part", mentions, mentions);
        each(where, "nick", mentions, mentions);
        each(where, "unsay", numbers(model.s.sayings().size()));
        each(where, "match", some(-1, 0, 2, 4), some(-1, 0, 1, 3), some(-1, 0, 1, 3, 4), some(-1, 0, 1, 3),
                some(0, 1, 3, 4));
    }
}
