/** Promises 24 to 26, each where the document names an end of something; all answers worked out by hand. */
public final class SeenEdgesTest {
    private static final Check check = new Check();
    private static final Edges edges = new Edges(check, Check.BAD);
    private static final String THREE = "m 60 1;m 60 2;m 60 3;";

    public static void main(String[] args) {
        check.promise(24);
        sawEnds();
        sawFull();
        check.promise(25);
        forgetEnds();
        check.promise(26);
        whoseEnds();
        inchesOneToForty();
        allThatWasSeen();
        fewAndMany();
        slipsThatEndAtTheEnd();
        check.end("SeenEdgesTest");
    }

    // ---- promise 24

    private static void sawEnds() {
        RankWheels x = Check.told(Edges.SEVEN);
        check.due("saw(0, 0, -999)", x.saw(0, 0, -999), 1);
        check.due("saw(6, 60, 999)", x.saw(6, 60, 999), 2);
        check.due("count(1)", x.count(1), 2);
        edges.beyondMen("saw(n, 0, 0)", (y, n) -> y.saw(n, 0, 0), 0);
        edges.beyondMen("saw(n, 60, 999)", (y, n) -> y.saw(n, 60, 999), 0);
        edges.beyond("saw(0, n, 0)", (y, n) -> y.saw(0, n, 0), 0, 60);
        edges.beyond("saw(2, n, -999)", (y, n) -> y.saw(2, n, -999), 0, 60);
        edges.beyond("saw(0, 0, n)", (y, n) -> y.saw(0, 0, n), -999, 999);
        edges.beyond("saw(2, 60, n)", (y, n) -> y.saw(2, 60, n), -999, 999);
    }

    /** Six that were SEEN, and all would be so if PLACE 1 slipped by 6. */
    private static RankWheels fullOfSeen() {
        RankWheels x = Edges.busyThree();
        int[][] when = {{0, 0}, {2, 1}, {1, 2}, {0, 60}, {2, 60}};
        for (int[] w : when) {
            x.slips(1, 6);
            int inches = x.looks(w[1], w[0]);
            x.undo();
            x.saw(w[0], w[1], inches);
        }
        return x;
    }

    private static void sawFull() {
        RankWheels x = Check.told(THREE);
        for (int i = 1; i <= 6; i++) {
            check.due("saw() " + i, x.saw(1, 0, 0), i);
        }
        check.due("saw() 7", x.saw(1, 0, 0), Check.FULL);
        check.due("count(1)", x.count(1), 6);
        check.due("six: count(1)", fullOfSeen().count(1), 6);
        check.due("six: whose(1)", fullOfSeen().whose(1), 106);
        edges.changesNothing("full, saw(0, 0, 999)", SeenEdgesTest::fullOfSeen, y -> y.saw(0, 0, 999), Check.FULL);
        edges.changesNothing("full, saw(2, 60, -999)", SeenEdgesTest::fullOfSeen, y -> y.saw(2, 60, -999), Check.FULL);
        edges.refused("full, saw(3, 0, 0): BAD first", SeenEdgesTest::fullOfSeen, y -> y.saw(3, 0, 0));
        edges.refused("full, saw(0, 61, 0): BAD first", SeenEdgesTest::fullOfSeen, y -> y.saw(0, 61, 0));
        edges.refused("full, saw(0, 0, 1000): BAD first", SeenEdgesTest::fullOfSeen, y -> y.saw(0, 0, 1000));
        x.forget();
        check.due("room behind forget()", x.saw(1, 0, 0), 1);
        for (int i = 2; i <= 6; i++) {
            check.due("saw() " + i + " again", x.saw(1, 0, 0), i);
        }
        check.due("full again", x.saw(1, 0, 0), Check.FULL);
        Check.type(x, THREE);
        x.rank();
        check.due("room behind rank()", x.saw(1, 0, 0), 1);
    }

    // ---- promise 25

    private static void forgetEnds() {
        RankWheels x = Check.told(THREE);
        check.due("forget() of nothing", x.forget(), 0);
        x.saw(0, 0, 0);
        check.due("forget() of one", x.forget(), 1);
        check.due("forget() again", x.forget(), 0);
        check.due("count(1)", x.count(1), 0);
        check.due("forget() when full", fullOfSeen().forget(), 6);
        edges.changesNothing("nobody: forget()", RankWheels::new, RankWheels::forget, 0);
        RankWheels full = fullOfSeen();
        full.forget();
        RankWheels other = Edges.busyThree();
        other.forget();
        check.holds("forget() takes all that was SEEN, and nothing else", Tale.of(full).equals(Tale.of(other)));
        RankWheels again = Edges.busyThree();
        again.forget();
        again.saw(1, 0, again.place(1, 1) - 6);
        check.holds("but what was SEEN nothing is lost", Tale.of(again).equals(Tale.of(Edges.busyThree())));
    }

    // ---- promise 26

    private static void whose(String when, RankWheels x, int many, int first, int places) {
        check.due(when + ": whose(0)", x.whose(0), many);
        check.due(when + ": whose(1)", x.whose(1), first);
        check.due(when + ": whose(2)", x.whose(2), places);
    }

    private static void whoseEnds() {
        whose("busy", Edges.busyThree(), 1, 106, 2);
        edges.beyond("whose(n)", RankWheels::whose, 0, 2);
        edges.refused("nobody: whose(3)", RankWheels::new, x -> x.whose(3));
        for (int what = 0; what < 3; what++) {
            int asked = what;
            edges.onlyLooks("whose(" + what + ")", x -> x.whose(asked));
            edges.changesNothing("six, whose(" + what + ")", SeenEdgesTest::fullOfSeen, x -> x.whose(asked),
                    new int[] {1, 106, 2}[what]);
        }
    }

    private static RankWheels seen(String text, int p, int n, int inches) {
        RankWheels x = Check.told(text);
        x.saw(p, n, inches);
        return x;
    }

    private static void inchesOneToForty() {
        whose("0 by 1", seen(THREE, 0, 0, -1), 1, 1, 1);
        whose("0 by 40", seen(THREE, 0, 0, -40), 1, 40, 1);
        whose("0 by 41", seen(THREE, 0, 0, -41), 0, Check.NONE, 0);
        whose("2 by 1", seen(THREE, 2, 0, -1), 1, 201, 4);
        whose("2 by 40", seen(THREE, 2, 0, -40), 1, 240, 4);
        whose("2 by 41", seen(THREE, 2, 0, -41), 0, Check.NONE, 0);
        whose("2 by none: one of the others", seen(THREE, 2, 0, 0), 80, 1, 3);
        whose("0 by none: one of the others", seen(THREE, 0, 0, 0), 80, 101, 6);
        whose("ahead", seen(THREE, 2, 0, 1), 0, Check.NONE, 0);
        whose("6 of seven by 40", seen(Edges.SEVEN, 6, 0, -40), 1, 640, 64);
        // he without wins an inch a pace and so would have slipped by 60 and some: it is none of his
        String slow = "m 60 1;m 31 1;p 30;e 0;w 10;";
        whose("behind 60 paces", seen(slow, 1, 60, -1), 1, 1, 1);
        whose("behind 39 paces", seen(slow, 1, 39, -1), 2, 1, 3);
        whose("behind 40 paces", seen(slow, 1, 40, -1), 1, 1, 1);
        whose("behind 0 paces", seen(slow, 1, 0, -1), 1, 101, 2);
    }

    /** Each of the six is looked at: with one of them wrong it is nobody's. */
    private static void allThatWasSeen() {
        int[] paces = {0, 1, 2, 30, 59, 60};
        for (int wrong = -1; wrong < 6; wrong++) {
            RankWheels x = Check.told("m 60 1;m 60 2;m 60 3;e 0;w 0;");
            for (int i = 0; i < 6; i++) {
                x.saw(1, paces[i], i == wrong ? -8 : -7);
            }
            if (wrong < 0) {
                whose("all six", x, 1, 107, 2);
            } else {
                whose("all but " + wrong, x, 0, Check.NONE, 0);
            }
        }
        // two that can't both be so
        RankWheels x = seen(THREE, 1, 0, -7);
        x.saw(1, 0, -8);
        whose("two of one time", x, 0, Check.NONE, 0);
        RankWheels y = seen(THREE, 1, 0, -7);
        y.saw(2, 0, -7);
        whose("just one slipped", y, 0, Check.NONE, 0);
    }

    private static void fewAndMany() {
        whose("nobody", new RankWheels(), 0, Check.NONE, 0);
        whose("one alone, nothing SEEN", Check.told("m 9 9;"), 40, 1, 1);
        whose("one alone by 40", seen("m 9 9;", 0, 60, -40), 1, 40, 1);
        whose("three, nothing SEEN", Check.told(THREE), 120, 1, 7);
        whose("seven, nothing SEEN", Check.told(Edges.SEVEN), 280, 1, 127);
    }

    private static void slipsThatEndAtTheEnd() {
        RankWheels x = Check.told("m 60 1;m 60 2;e 0;w 0;");
        for (int i = 0; i < 10; i++) {
            x.slips(1, 99);
        }
        x.saw(1, 0, -999);
        // from -990 on 9 and all above it end there
        whose("-990", x, 32, 109, 2);
        x.slips(1, 8);
        whose("-998", x, 40, 101, 2);
        x.slips(1, 1);
        // there already: so it is whoever slips
        whose("-999", x, 80, 1, 3);
    }
}
