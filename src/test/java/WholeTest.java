import java.util.ArrayList;
import java.util.List;

/** Promises 50 and 51: isSound, and digest by the answers of all other calls. */
public final class WholeTest {
    private WholeTest() {
    }

    /** An object is asked 512 times at most; to make one takes 120 calls. */
    private static final int MOST_ASKED = 360;

    private static final List<Untouched.Deed> DEEDS = new ArrayList<>();
    private static Parishbook book;
    private static int asked;

    public static void main(String[] args) {
        look("a new one");
        deed(x -> Pen.write(x, "mary"));
        deed(x -> x.type(1));
        deed(x -> x.type(10));
        look("a slip and a pen");
        for (int i = 0; i < 10; i++) {
            int e = i;
            deed(x -> x.enter(e < 6 ? 0 : e % 4, 6000 * (e % 6), 6000 * (e % 6) + 5000, e % 2));
        }
        look("entries");
        mentions();
        look("mentions");
        int[][] joins = {{0, 4}, {1, 7}, {3, 8}, {6, 10}, {9, 13}, {8, 14}, {12, 20}, {15, 22}, {2, 5}};
        for (int[] pair : joins) {
            deed(x -> x.join(pair[0], pair[1], pair[0] % 10));
            look("joined " + pair[0]);
        }
        deed(x -> x.part(0, 11));
        deed(x -> x.nick(0, 5));
        deed(x -> x.twins(0, 2));
        deed(x -> x.same(8, 1));
        deed(x -> x.age(6, 40));
        deed(x -> x.demand(0, 1, 40000));
        deed(x -> x.knock());
        look("not possible");
        deed(x -> x.undo());
        look("a step back");
        Check.due("digest twice", told(), () -> ask().digest());
        Check.end();
    }

    private static void deed(Untouched.Deed deed) {
        DEEDS.add(deed);
    }

    private static void mentions() {
        int count = 0;
        for (int i = 0; i < 10; i++) {
            int e = i;
            int kind = e < 6 ? 0 : e % 4;
            for (int r = 0; r < 3 && count < 24; r++) {
                int role = r;
                if (role < 2 || kind != 3) {
                    deed(x -> x.mention(e, role));
                    count++;
                }
            }
            deed(x -> Pen.write(x, e % 2 == 0 ? "bob" : "mary"));
        }
    }

    /** The register as the deeds make it; made anew when it was asked often. */
    private static Parishbook ask() {
        asked++;
        if (book == null || asked > MOST_ASKED) {
            book = new Parishbook();
            asked = 0;
            for (Untouched.Deed deed : DEEDS) {
                String answer = Check.told(() -> deed.on(book));
                Check.due("a deed throws", false, () -> answer.startsWith("throws."));
            }
        }
        return book;
    }

    private static void look(String what) {
        book = null;
        Check.due("isSound with " + what, true, () -> ask().isSound());
        Check.due("digest with " + what, told(), () -> ask().digest());
    }

    private static long told() {
        int mentions = ask().house(1);
        long d = ofEntries(6511);
        for (int i = 0; i < mentions; i++) {
            int m = i;
            for (int what = 0; what <= 8; what++) {
                d = d * 31 + ask().ofMention(m, what);
            }
            d = d * 31 + ask().loops(m);
            d = (d * 31 + ask().tree(m).length()) * 31 + ask().line(m, true).length();
        }
        d = (d * 31 + ask().clash(true).length()) * 31 + ask().clash(false).length();
        for (int m = 0; m < mentions; m++) {
            for (int n = m + 1; n < mentions; n++) {
                d = (d * 31 + ask().degree(m, n, true)) * 31 + ask().degree(m, n, false);
                d = (d * 31 + ask().leave(m, n)) * 31 + ask().common(m, n).length();
                d = d * 31 + ask().likeness(m, n);
            }
        }
        int sayings = ask().house(3);
        for (int nth = 0; nth < sayings; nth++) {
            d = d * 31 + ask().saying(nth).length();
        }
        d = (d * 31 + ask().fault()) * 31 + ask().key().length();
        return d * 31 + (ask().isSound() ? 1 : 0);
    }

    private static long ofEntries(long start) {
        long d = start;
        for (int what = 0; what <= 11; what++) {
            d = d * 31 + ask().house(what);
        }
        int entries = ask().house(0);
        for (int e = 0; e < entries; e++) {
            for (int what = 0; what <= 9; what++) {
                d = d * 31 + ask().ofEntry(e, what);
            }
            d = (d * 31 + ask().bound(e, false)) * 31 + ask().bound(e, true);
        }
        return d;
    }
}
