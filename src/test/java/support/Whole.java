/** What a register tells of itself, as a text: to see whether two are alike, or whether one has changed. */
final class Whole {
    private Whole() {
    }

    /** All that a STEP can change, with the PEN and the SLIP: 340 calls for a full register. */
    static String kept(Parishbook book) {
        StringBuilder text = new StringBuilder();
        for (int what : new int[] {0, 1, 2, 3, 4, 5, 9, 10, 11}) {
            text.append(book.house(what)).append(' ');
        }
        text.append(book.key()).append(' ').append(book.fault()).append(' ').append(book.told()).append('\n');
        for (int e = 0; e < book.house(0); e++) {
            for (int what = 0; what <= 9; what++) {
                text.append(book.ofEntry(e, what)).append(' ');
            }
            text.append(book.bound(e, false)).append(' ').append(book.bound(e, true)).append('\n');
        }
        for (int m = 0; m < book.house(1); m++) {
            text.append(book.mentions(m)).append('/').append(book.ofMention(m, 8)).append('/');
            text.append(book.likeness(m, 0)).append('\n');
        }
        return text.append(rest(book)).toString();
    }

    /** The same in some forty calls, and what is counted: STEPS, REFUSED, and how often one knocked. */
    static String counted(Parishbook book) {
        return book.digest() + "\n" + book.key() + " " + book.told() + "\n" + rest(book);
    }

    private static String rest(Parishbook book) {
        StringBuilder text = new StringBuilder();
        for (int nth = 0; nth < book.house(3); nth++) {
            text.append(book.saying(nth)).append(' ');
        }
        int entries = book.house(0);
        for (int e = 0; e < entries; e++) {
            text.append(book.apart(e, (e + 1) % entries)).append(' ');
        }
        return text.append(book.clash(true)).append('/').append(book.clash(false)).toString();
    }

    /** Takes back all STEPS that are kept, and tells how many there were and what is left. */
    static String ahead(Parishbook book) {
        int steps = book.house(6);
        for (int i = 0; i < steps; i++) {
            book.undo();
        }
        return steps + " steps, ahead of them: " + kept(book);
    }
}
