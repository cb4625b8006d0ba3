/** Promises 27 to 31, each where the document names an end of something; all answers worked out by hand. */
public final class KindsEdgesTest {
    private static final Check check = new Check();
    private static final Edges edges = new Edges(check, Check.BAD);
    private static final Edges ratings = new Edges(check, Check.NO);
    private static final int[] BODIES = {1, 11, 101, 1011, 10101, 100001};

    public static void main(String[] args) {
        check.promise(27);
        rateEnds();
        rateOfFarBehindAndAhead();
        check.promise(28);
        keepEnds();
        keepsNowAndNothingElse();
        check.promise(29);
        backEnds();
        backOfNone();
        backBringsAllOfThat();
        backLeavesTheRest();
        check.promise(30);
        countEnds();
        countEmptyAndFull();
        check.promise(31);
        traceEnds();
        traceOfNothingElse();
        check.end("KindsEdgesTest");
    }

    // ---- promise 27

    private static void rates(String when, RankWheels x, int p, int... due) {
        for (int kind = 0; kind < 6; kind++) {
            check.due(when + ": rate(" + kind + ", " + p + ")", x.rate(kind, p), due[kind]);
        }
    }

    private static void rateEnds() {
        RankWheels seven = Check.told("m 1 1;m 2 1;m 3 1;m 4 1;m 5 1;m 6 1;m 60 1;p 60;");
        rates("seven", seven, 0, 0, 1, 0, 2, 0, 0);
        rates("seven", seven, 6, 60, 120, 60, 240, 60, 60);
        seven.hops(6);
        rates("the right FOOT", seven, 6, 60, 120, 60, 240, 60, 69);
        rates("one alone", Check.told("m 9 9;"), 0, 0, 9, 0, 18, 0, 0);
        for (int kind = 0; kind < 6; kind++) {
            int asked = kind;
            ratings.beyondMen("rate(" + kind + ", n)", (x, n) -> x.rate(asked, n), 0);
        }
        ratings.beyond("rate(n, 0)", (x, n) -> x.rate(n, 0), 0, 5);
        ratings.beyond("rate(n, 2)", (x, n) -> x.rate(n, 2), 0, 5);
        ratings.refused("rate(6, 3)", Edges::busyThree, x -> x.rate(6, 3));
    }

    private static void rateOfFarBehindAndAhead() {
        RankWheels x = Check.told("m 60 1;m 60 1;p 60;");
        for (int i = 0; i < 11; i++) {
            x.slips(1, 99);
        }
        rates("-999", x, 1, 60, 120, 1059, 240, 2058, 60);
        // 134 paces of it: 999 984 999
        RankWheels far = Check.told("m 60 1;m 60 1;m 60 1;p 30;e 10;w 10;");
        far.slips(1, 10);
        for (int i = 0; i < 134; i++) {
            far.wheels();
        }
        rates("999", far, 0, 0, 60, -999, 120, -984, 0);
        for (int i = 0; i < 21; i++) {
            far.slips(1, 99);
        }
        // a BULGE of 1998, and -999 in the middle of it
        rates("999", far, 0, 0, 60, -999, 120, 999, 0);
        rates("-999", far, 1, 15, 75, 1014, 150, 3012, 15);
    }

    // ---- promise 28

    private static void keepEnds() {
        check.due("keep(0)", new RankWheels().keep(0), 0);
        check.due("keep(1)", new RankWheels().keep(1), 0);
        check.due("busy: keep(0)", Edges.busyThree().keep(0), 1);
        check.due("busy: keep(1)", Edges.busyThree().keep(1), 1);
        edges.beyond("keep(n)", RankWheels::keep, 0, 1);
        edges.refused("nothing kept yet: keep(2)", () -> Check.told(Edges.THREE), x -> x.keep(2));
        edges.refused("nothing kept yet: keep(-1)", () -> Check.told(Edges.THREE), x -> x.keep(-1));
    }

    private static void keepsNowAndNothingElse() {
        for (int image = 0; image < 2; image++) {
            RankWheels kept = Edges.busyThree();
            kept.keep(image);
            kept.back(image);
            check.due("SEEN stays", kept.count(1), 1);
            check.due("what may be UNDONE stays", kept.count(2), 6);
            check.due("the text stays", kept.count(3), 9);
            check.due("the trace stays", kept.trace(), 100001);
            check.due("the other IMAGE stays", kept.back(1 - image), 1);
            check.due("with what may be UNDONE in it", kept.count(2), image == 0 ? 3 : 2);
            RankWheels once = Edges.busyThree();
            once.keep(image);
            RankWheels twice = Edges.busyThree();
            twice.keep(image);
            twice.keep(image);
            check.holds("kept twice: IMAGE " + image, Tale.of(twice).equals(Tale.of(once)));
            RankWheels anew = Edges.busyThree();
            anew.keep(image);
            anew.undo();
            check.due("keep() over what was kept", anew.keep(image), 1);
            anew.back(1 - image);
            anew.back(image);
            check.due("the latest counts", anew.count(2), 5);
            check.due("PACE of then", anew.now(1), 24);
        }
    }

    // ---- promise 29

    private static void backEnds() {
        check.due("busy: back(0)", Edges.busyThree().back(0), 1);
        check.due("busy: back(1)", Edges.busyThree().back(1), 1);
        edges.beyond("back(n)", RankWheels::back, 0, 1);
        edges.refused("none kept: back(-1): BAD first", () -> Check.told(Edges.THREE), x -> x.back(-1));
        edges.refused("none kept: back(2): BAD first", () -> Check.told(Edges.THREE), x -> x.back(2));
    }

    /** Busy, but with one IMAGE or none. */
    private static RankWheels keeping(int only) {
        RankWheels x = Check.told(Edges.THREE + "p 24;e 3;w 4;");
        x.slips(1, 12);
        x.wheels();
        if (only >= 0) {
            x.keep(only);
        }
        x.hops(2);
        x.swaps(0, 2);
        x.saw(1, 0, 4);
        x.rate(4, 1);
        Check.type(x, "m 9 8;p 7");
        return x;
    }

    private static void backOfNone() {
        edges.changesNothing("back(0) of none", () -> keeping(-1), x -> x.back(0), Check.STATE);
        edges.changesNothing("back(1) of none", () -> keeping(-1), x -> x.back(1), Check.STATE);
        edges.changesNothing("back(1), only 0 was kept", () -> keeping(0), x -> x.back(1), Check.STATE);
        edges.changesNothing("back(0), only 1 was kept", () -> keeping(1), x -> x.back(0), Check.STATE);
        check.due("back(0), it was kept", keeping(0).back(0), 1);
        check.due("back(1), it was kept", keeping(1).back(1), 1);
        RankWheels x = keeping(0);
        x.keep(1);
        Check.type(x, ";");
        check.due("rank()", x.rank(), 2);
        check.due("back(0): gone", x.back(0), Check.STATE);
        check.due("back(1): gone", x.back(1), Check.STATE);
        // a fault leaves them
        RankWheels y = keeping(1);
        check.due("rank()", y.rank(), -2009);
        check.due("back(1): not gone", y.back(1), 1);
    }

    private static void backBringsAllOfThat() {
        RankWheels x = Edges.busyThree();
        check.due("back(0)", x.back(0), 1);
        // 0 -12 0, and then a pace by EYE 3, ELBOW 4 and PACE 24
        int[] now = {1, 24, 3, 4, 5, 0, 0, 1};
        int[] inches = {0, -5, -4};
        for (int what = 0; what < now.length; what++) {
            check.due("now(" + what + ")", x.now(what), now[what]);
        }
        for (int p = 0; p < 3; p++) {
            check.due("place(" + p + ", 0)", x.place(p, 0), p);
            check.due("place(" + p + ", 1)", x.place(p, 1), inches[p]);
        }
        check.due("two may be UNDONE", x.count(2), 2);
        check.due("back(1)", x.back(1), 1);
        check.due("FEET", x.now(6), 4);
        check.due("three may be UNDONE", x.count(2), 3);
        check.due("undo()", x.undo(), 2);
        check.due("FEET ahead of the hop", x.now(6), 0);
        check.due("back(1) once more", x.back(1), 1);
        check.due("an IMAGE stays as it was", x.now(6), 4);
        // what is done behind it is not in it
        x.wheels();
        x.slips(0, 9);
        check.due("back(1) behind two deeds", x.back(1), 1);
        check.due("PACES", x.now(0), 1);
        check.due("INCHES", x.place(0, 1), 0);
        check.due("three still", x.count(2), 3);
    }

    private static void backLeavesTheRest() {
        RankWheels full = Check.told(Edges.THREE);
        full.keep(1);
        for (int n = 1; n <= 12; n++) {
            full.slips(1, n);
        }
        full.keep(0);
        check.due("back(1) of an empty past", full.back(1), 0);
        check.due("none may be UNDONE", full.undo(), Check.STATE);
        // deeds of another time, which are not the IMAGE's
        for (int n = 1; n <= 12; n++) {
            full.slips(2, 99);
        }
        check.due("back(0) of a full past", full.back(0), 0);
        check.due("ten may be UNDONE", full.count(2), 10);
        for (int left = 9; left >= 0; left--) {
            check.due("undo()", full.undo(), left);
            int still = left + 2;
            check.due("INCHES", full.place(1, 1), -still * (still + 1) / 2);
            check.due("INCHES of another time", full.place(2, 1), 0);
        }
        RankWheels x = Edges.busyThree();
        x.saw(0, 5, 5);
        x.rate(0, 0);
        x.type('q');
        x.back(0);
        check.due("SEEN stays", x.count(1), 2);
        check.due("the text stays", x.count(3), 10);
        check.due("the trace stays", x.trace(), 100002);
        check.due("MEN stay", x.count(0), 3);
        check.due("their LEGS stay", x.man(2, 0), 40);
    }

    // ---- promises 30, 31

    private static void countEnds() {
        int[] due = {3, 1, 6, 9};
        for (int what = 0; what < 4; what++) {
            int asked = what;
            check.due("count(" + what + ")", Edges.busyThree().count(what), due[what]);
            edges.onlyLooks("count(" + what + ")", x -> x.count(asked));
        }
        edges.beyond("count(n)", RankWheels::count, 0, 3);
    }

    private static void countEmptyAndFull() {
        RankWheels x = new RankWheels();
        for (int what = 0; what < 4; what++) {
            check.due("empty: count(" + what + ")", x.count(what), 0);
        }
        x = Check.told(Edges.SEVEN);
        for (int i = 0; i < 11; i++) {
            x.hops(i % 7);
        }
        for (int i = 0; i < 7; i++) {
            x.saw(i, i, i);
        }
        for (int i = 0; i < 121; i++) {
            x.type('m');
        }
        int[] full = {7, 6, 10, 120};
        for (int what = 0; what < 4; what++) {
            check.due("full: count(" + what + ")", x.count(what), full[what]);
        }
    }

    private static void traceEnds() {
        check.due("at first", new RankWheels().trace(), 0);
        for (int kind = 0; kind < 6; kind++) {
            RankWheels x = Check.told(Edges.THREE);
            x.rate(kind, 0);
            check.due("KIND " + kind, x.trace(), BODIES[kind]);
            x.rate(kind, 2);
            check.due("KIND " + kind + " twice", x.trace(), 2L * BODIES[kind]);
            check.due("KIND " + kind + ", asked again", x.trace(), 2L * BODIES[kind]);
        }
        RankWheels x = Check.told(Edges.THREE);
        for (int i = 0; i < 480; i++) {
            x.rate(5, 0);
        }
        check.due("as often as may be", x.trace(), 48000480);
        edges.onlyLooks("trace()", RankWheels::trace);
    }

    private static void traceOfNothingElse() {
        RankWheels x = Edges.busyThree();
        long before = x.trace();
        x.rate(-1, 0);
        x.rate(6, 0);
        x.rate(0, -1);
        x.rate(5, 3);
        x.place(1, 3);
        x.now(4);
        x.wheels();
        x.looks(9, -1);
        x.dressed();
        x.mix(0);
        x.order(0);
        x.behind(9);
        x.post(1, 9);
        x.whose(0);
        x.undo();
        x.keep(0);
        x.back(1);
        x.type(';');
        x.rank();
        check.due("nothing else comes to it", x.trace(), before);
        check.due("MEN of the text", x.count(0), 1);
    }
}
