/** Gives a register's pen a name that is told as a text. */
final class Pen {
    private Pen() {
    }

    static int write(Parishbook book, String name) {
        int[] letters = new int[6];
        for (int i = 0; i < name.length(); i++) {
            letters[i] = name.charAt(i) - 'a' + 1;
        }
        return book.pen(letters[0], letters[1], letters[2], letters[3], letters[4], letters[5]);
    }
}
