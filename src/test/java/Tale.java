/** All that an object can still tell, what it holds for later too: two that are alike inside tell the same. */
final class Tale {
    /** With what made the object this stays within the 512 calls that an object is made for. */
    private static final int MOST_CALLS = 400;

    private final RankWheels x;
    private final StringBuilder told = new StringBuilder();
    private int calls;

    private Tale(RankWheels itsObject) {
        x = itsObject;
    }

    /** The object is used up by this: it is undone, brought back and read anew. */
    static String of(RankWheels x) {
        Tale tale = new Tale(x);
        tale.all();
        if (tale.calls > MOST_CALLS) {
            throw new IllegalStateException("a tale of " + tale.calls + " calls");
        }
        return tale.told.toString();
    }

    private void add(long answer) {
        calls++;
        told.append(answer).append(' ');
    }

    private void all() {
        counts();
        men();
        for (int what = 0; what < 3; what++) {
            add(x.whose(what));
        }
        lineAndPast();
        for (int image = 0; image < 2; image++) {
            add(x.back(image));
            lineAndPast();
        }
        add(x.forget());
        text();
        counts();
        add(x.trace());
    }

    private void counts() {
        for (int what = 0; what < 4; what++) {
            add(x.count(what));
        }
    }

    private int number() {
        calls++;
        return x.count(0);
    }

    private void men() {
        int number = number();
        for (int m = 0; m < number; m++) {
            add(x.man(m, 0));
            add(x.man(m, 1));
        }
    }

    private void line() {
        for (int what : new int[] {0, 1, 2, 3, 6}) {
            add(x.now(what));
        }
        int number = number();
        for (int p = 0; p < number; p++) {
            add(x.place(p, 0));
            add(x.place(p, 1));
        }
    }

    private void lineAndPast() {
        line();
        boolean more = true;
        for (int i = 0; i < 12 && more; i++) {
            int left = x.undo();
            add(left);
            line();
            more = left >= 0;
        }
    }

    /** A text that has lost its last semicolon, or has it, says by this what it holds. */
    private void text() {
        add(x.rank());
        add(x.type(';'));
        add(x.rank());
        men();
        line();
    }
}
