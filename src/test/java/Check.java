/** What the tests share: it counts answers, prints each that is not the one due, and ends the test. */
final class Check {
    static final int BAD = -1001, STATE = -1002, FULL = -1003, NONE = -1009, NO = -1000000;

    private String asking = "";
    private int asked;
    private int wrong;

    /** Which promise the answers from here on are asked for. */
    void promise(int number) {
        asking = "promise " + number + ": ";
    }

    void due(String call, long got, long want) {
        asked++;
        if (got != want) {
            wrong++;
            System.out.println(asking + call + " answered " + got + ", due is " + want);
        }
    }

    void holds(String what, boolean so) {
        due(what, so ? 1 : 0, 1);
    }

    void end(String test) {
        System.out.println(test + ": " + asked + " answers, " + wrong + " wrong");
        System.exit(wrong == 0 && asked > 0 ? 0 : 1);
    }

    static void type(RankWheels x, String text) {
        for (int i = 0; i < text.length(); i++) {
            x.type(text.charAt(i));
        }
    }

    /** A new object whose rank is told by the text. */
    static RankWheels told(String text) {
        RankWheels x = new RankWheels();
        type(x, text);
        int items = x.rank();
        if (items < 0) {
            throw new IllegalStateException("the test's own text is at fault: " + text + ": " + items);
        }
        return x;
    }
}
