/** Promises 7 to 14, each where the document names an end of something; all answers worked out by hand. */
public final class DoneEdgesTest {
    private static final Check check = new Check();
    private static final Edges edges = new Edges(check, Check.BAD);
    private static final String TWO = "m 60 1;m 60 1;";
    private static final String THREE = "m 60 1;m 60 1;m 60 1;";

    public static void main(String[] args) {
        check.promise(7);
        nobodyAndOneAlone();
        outwardAndInward();
        tenthsAreCutTowardsNought();
        noughtAtLeast();
        legAtMost();
        inchesAtLeast();
        inchesAtMost();
        feetOfOneOrTwoBeside();
        pacesAtMost();
        check.promise(8);
        slipsEnds();
        slipsToTheEnd();
        check.promise(9);
        hopsEnds();
        check.promise(10);
        swapsEnds();
        check.promise(11);
        mindsEnds();
        check.promise(12);
        speedsEnds();
        check.promise(13);
        undoNone();
        undoTenKnown();
        undoEachDeed();
        noDeeds();
        check.promise(14);
        nowEnds();
        bulgeEnds();
        feetAndInLineEnds();
        check.end("DoneEdgesTest");
    }

    private static void inches(String when, RankWheels x, int... due) {
        for (int p = 0; p < due.length; p++) {
            check.due(when + ": INCHES of " + p, x.place(p, 1), due[p]);
        }
    }

    private static RankWheels slipped(String text, int p, int n) {
        RankWheels x = Check.told(text);
        for (int left = n; left > 0; left -= 99) {
            x.slips(p, Math.min(99, left));
        }
        return x;
    }

    private static void onePace(String text, int p, int n, int... due) {
        RankWheels x = slipped(text, p, n);
        x.wheels();
        inches(text + " slips(" + p + ", " + n + "), wheels()", x, due);
    }

    // ---- promise 7

    private static void nobodyAndOneAlone() {
        RankWheels nobody = new RankWheels();
        check.due("nobody: wheels()", nobody.wheels(), 0);
        check.due("nobody: PACES", nobody.now(0), 1);
        check.due("nobody: to be undone", nobody.count(2), 1);
        RankWheels one = slipped("m 1 1;p 60;e 10;w 10;", 0, 99);
        one.hops(0);
        check.due("one alone: wheels()", one.wheels(), 0);
        inches("one alone", one, -99);
        check.due("one alone: FOOT", one.place(0, 2), 1);
        check.due("one alone: PACES", one.now(0), 1);
    }

    private static void outwardAndInward() {
        // he without sees nothing, he within feels nothing
        onePace(TWO + "p 10;e 10;w 0;", 0, 5, 0, 0);
        onePace(TWO + "p 10;e 10;w 0;", 1, 5, 0, -5);
        onePace(TWO + "p 10;e 0;w 10;", 0, 5, -5, -5);
        onePace(TWO + "p 10;e 0;w 10;", 1, 5, 0, 0);
        // by how all are ahead of the pace: none by what one beside has just taken
        onePace(THREE + "p 20;e 10;w 0;", 0, 8, 0, 0, 0);
        onePace(THREE + "p 20;e 10;w 0;", 1, 8, 0, 0, 0);
        onePace(THREE + "p 20;e 10;w 0;", 2, 8, 0, -8, -8);
        onePace(THREE + "p 20;e 0;w 10;", 0, 8, -8, -8, 0);
        onePace(THREE + "p 20;e 0;w 10;", 1, 8, 0, 0, -8);
        onePace(THREE + "p 20;e 0;w 10;", 2, 8, 0, 0, 0);
    }

    private static void tenthsAreCutTowardsNought() {
        int[] by = {1, 9, 10, 19, 20, 99};
        int[] tenths = {0, 0, 1, 1, 2, 9};
        for (int i = 0; i < by.length; i++) {
            int cut = tenths[i];
            // a tenth of what is seen, ahead and behind; then of what is felt
            onePace(THREE + "p 30;e 1;w 0;", 1, by[i], 0, -by[i] + cut, 0);
            onePace(THREE + "p 30;e 1;w 0;", 2, by[i], 0, -cut, -by[i]);
            onePace(THREE + "p 30;e 0;w 1;", 1, by[i], 0, -by[i] + cut, -cut);
            onePace(THREE + "p 30;e 0;w 1;", 0, by[i], -by[i], -cut, 0);
        }
        // each by itself: 5 tenths of 1 and of 3, twice
        onePace(THREE + "p 30;e 5;w 5;", 1, 1, 0, -1, 0);
        onePace(THREE + "p 30;e 5;w 5;", 1, 3, 0, -1, -1);
        onePace(THREE + "p 30;e 9;w 9;", 1, 1, 0, -1, 0);
        onePace(THREE + "p 30;e 10;w 10;", 1, 1, 0, 1, -1);
    }

    private static void noughtAtLeast() {
        // he without wants 10, and feels 9, 10, 11 and 99 to go back by
        onePace(TWO + "p 10;e 0;w 10;", 0, 9, -9, -9);
        onePace(TWO + "p 10;e 0;w 10;", 0, 10, -10, -10);
        onePace(TWO + "p 10;e 0;w 10;", 0, 11, -11, -10);
        onePace(TWO + "p 10;e 0;w 10;", 0, 99, -99, -10);
        // he within wants nothing, and so never goes back
        onePace(TWO + "p 10;e 10;w 0;", 1, 1, 0, -1);
        onePace(TWO + "p 10;e 10;w 0;", 1, 99, 0, -99);
    }

    private static void legAtMost() {
        onePace("m 60 1;m 15 1;p 10;e 0;w 10;", 1, 4, 0, 0);
        onePace("m 60 1;m 15 1;p 10;e 0;w 10;", 1, 5, 0, 0);
        onePace("m 60 1;m 15 1;p 10;e 0;w 10;", 1, 6, 0, -1);
        onePace("m 60 1;m 15 1;p 10;e 0;w 10;", 1, 99, 0, -94);
        onePace("m 60 1;m 60 1;p 60;e 0;w 10;", 1, 99, 0, -99);
        onePace("m 1 1;m 60 1;p 60;e 10;w 0;", 0, 2, -1, 0);
        // he can't do what he wants: 1 of 1, 1 of 2, 59 of 60
        onePace("m 60 1;m 1 1;p 1;e 0;w 0;", 0, 0, 0, 0);
        onePace("m 60 1;m 1 1;p 2;e 0;w 0;", 0, 0, 0, -1);
        onePace("m 60 1;m 59 1;p 60;e 0;w 0;", 0, 0, 0, -1);
        onePace("m 60 1;m 60 1;p 60;e 0;w 0;", 0, 0, 0, 0);
    }

    private static void inchesAtLeast() {
        // he without loses an inch, two, 59 at each pace
        onePace("m 1 1;m 1 1;p 2;e 0;w 0;", 1, 997, 0, -998);
        onePace("m 1 1;m 1 1;p 2;e 0;w 0;", 1, 998, 0, -999);
        onePace("m 1 1;m 1 1;p 2;e 0;w 0;", 1, 999, 0, -999);
        onePace("m 1 1;m 1 1;p 3;e 0;w 0;", 1, 998, 0, -999);
        onePace("m 1 1;m 1 1;p 60;e 0;w 0;", 1, 941, 0, -999);
        onePace("m 1 1;m 1 1;p 60;e 0;w 0;", 1, 940, 0, -999);
        onePace("m 1 1;m 1 1;p 60;e 0;w 0;", 1, 939, 0, -998);
        check.due("the BULGE ends there", slipped("m 1 1;m 1 1;p 60;e 0;w 0;", 1, 980).wheels(), 999);
    }

    /** They go on ahead by 15 at every other pace: 0 10 -10, 10 -5 10, 10 25 -5, 25 10 25, and so on. */
    private static RankWheels farAhead(int paces) {
        RankWheels x = slipped(THREE + "p 30;e 10;w 10;", 1, 10);
        for (int i = 0; i < paces; i++) {
            x.wheels();
        }
        return x;
    }

    private static void inchesAtMost() {
        inches("1", farAhead(1), 0, 10, -10);
        inches("4", farAhead(4), 25, 10, 25);
        RankWheels x = farAhead(132);
        inches("132", x, 985, 970, 985);
        // 970 and 15 and 15 would be 1000
        check.due("wheels()", x.wheels(), 29);
        inches("133", x, 985, 999, 970);
        check.due("wheels()", x.wheels(), 15);
        inches("134", x, 999, 984, 999);
        check.due("wheels()", x.wheels(), 15);
        inches("135", x, 999, 999, 984);
        check.due("undo()", x.undo(), 9);
        inches("134 again", x, 999, 984, 999);
        check.due("looks(1, 1)", x.looks(1, 1), 999);
        check.due("looks(60, 2)", x.looks(60, 2), 999);
        for (int i = 0; i < 20; i++) {
            x.slips(1, 99);
        }
        check.due("slips() to the other end", x.place(1, 1), -996);
        check.due("slips() to the other end", x.slips(1, 3), -999);
        check.due("the greatest BULGE there can be", x.now(4), 1998);
        check.due("he takes his LEG", x.wheels(), 1953);
        // he within marks time, he without takes none of 30
        inches("then", x, 999, -954, 969);
    }

    private static void feet(String text, int number, int before, int after) {
        RankWheels x = Check.told(text);
        for (int p = 0; p < number; p++) {
            if ((before >> p & 1) == 1) {
                x.hops(p);
            }
        }
        x.wheels();
        check.due("FEET " + Integer.toBinaryString(before) + " of " + number, x.now(6), after);
    }

    private static void feetOfOneOrTwoBeside() {
        feet("m 1 1;", 1, 0, 0);
        feet("m 1 1;", 1, 1, 1);
        int[] two = {0, 2, 1, 3};
        int[] three = {0, 0, 5, 7, 0, 2, 7, 7};
        for (int bits = 0; bits < 4; bits++) {
            feet(TWO, 2, bits, two[bits]);
        }
        for (int bits = 0; bits < 8; bits++) {
            feet(THREE, 3, bits, three[bits]);
        }
        String seven = "m1 1;m1 1;m1 1;m1 1;m1 1;m1 1;m1 1;";
        feet(seven, 7, 0, 0);
        feet(seven, 7, 127, 127);
        feet(seven, 7, 64, 0);
        feet(seven, 7, 63, 127);
        feet(seven, 7, 1, 0);
        feet(seven, 7, 126, 127);
        feet(seven, 7, 0b1010101, 0b0101010);
    }

    private static RankWheels wheeled(int paces) {
        RankWheels x = Check.told(TWO + "p 10;");
        for (int i = 0; i < paces; i++) {
            x.wheels();
        }
        return x;
    }

    /** More calls than an object is made for, as no fewer lead there; the bound is told all the same. */
    private static void pacesAtMost() {
        check.due("PACES at first", wheeled(0).now(0), 0);
        RankWheels x = wheeled(9998);
        check.due("wheels() to PACE 9999", x.wheels(), 0);
        check.due("PACES", x.now(0), 9999);
        check.due("PACE 9999: wheels()", x.wheels(), Check.STATE);
        check.due("PACES still", x.now(0), 9999);
        edges.changesNothing("PACE 9999: wheels()", () -> wheeled(9999), RankWheels::wheels, Check.STATE);
        check.due("undo()", x.undo(), 9);
        check.due("PACES then", x.now(0), 9998);
        check.due("wheels() again", x.wheels(), 0);
    }

    // ---- promises 8 to 12

    private static void slipsEnds() {
        check.due("slips(0, 1)", Check.told(Edges.SEVEN).slips(0, 1), -1);
        check.due("slips(6, 99)", Check.told(Edges.SEVEN).slips(6, 99), -99);
        check.due("slips(2, 99)", Check.told(Edges.THREE).slips(2, 99), -99);
        edges.beyond("slips(1, n)", (x, n) -> x.slips(1, n), 1, 99);
        edges.beyondMen("slips(n, 1)", (x, n) -> x.slips(n, 1), 0);
        edges.beyondMen("slips(n, 99)", (x, n) -> x.slips(n, 99), 0);
        edges.beyondMen("slips(n, 0)", (x, n) -> x.slips(n, 0), 0);
    }

    private static void slipsToTheEnd() {
        RankWheels x = slipped(TWO, 1, 997);
        check.due("-997, slips(1, 1)", x.slips(1, 1), -998);
        check.due("-998, slips(1, 1)", x.slips(1, 1), -999);
        check.due("-999, slips(1, 1)", x.slips(1, 1), -999);
        check.due("undo() of a slip at the end", x.undo(), 9);
        inches("-999 still", x, 0, -999);
        check.due("undo()", x.undo(), 8);
        check.due("-998, slips(1, 2)", x.slips(1, 2), -999);
        check.due("-900, slips(0, 99)", slipped(TWO, 0, 900).slips(0, 99), -999);
        check.due("-901, slips(0, 99)", slipped(TWO, 0, 901).slips(0, 99), -999);
        check.due("-899, slips(0, 99)", slipped(TWO, 0, 899).slips(0, 99), -998);
        check.due("999, slips(0, 99)", farAhead(134).slips(0, 99), 900);
    }

    private static void hopsEnds() {
        RankWheels x = Check.told(Edges.SEVEN);
        check.due("hops(0)", x.hops(0), 1);
        check.due("hops(6)", x.hops(6), 1);
        check.due("FEET", x.now(6), 65);
        check.due("hops(0) again", x.hops(0), 0);
        check.due("hops(6) again", x.hops(6), 0);
        check.due("FEET", x.now(6), 0);
        check.due("four deeds", x.count(2), 4);
        edges.beyondMen("hops(n)", RankWheels::hops, 0);
    }

    private static void swapsEnds() {
        check.due("swaps(0, 6)", Check.told(Edges.SEVEN).swaps(0, 6), 6);
        check.due("swaps(6, 0)", Check.told(Edges.SEVEN).swaps(6, 0), 0);
        check.due("swaps(0, 1) of two", Check.told(TWO).swaps(0, 1), 1);
        edges.beyondMen("swaps(n, 1)", (x, n) -> x.swaps(n, 1), 0);
        edges.beyondMen("swaps(1, n)", (x, n) -> x.swaps(1, n), 0);
        edges.beyondMen("swaps(n, n)", (x, n) -> x.swaps(n, n), 0);
        for (int p = 0; p < 7; p++) {
            int alike = p;
            edges.refused("swaps(" + p + ", " + p + ")", Edges::busySeven, x -> x.swaps(alike, alike));
        }
        edges.refused("one alone: swaps(0, 0)", () -> Check.told("m 9 9;"), x -> x.swaps(0, 0));
        edges.refused("one alone: swaps(0, 1)", () -> Check.told("m 9 9;"), x -> x.swaps(0, 1));
        // INCHES and FEET stay with the PLACES
        RankWheels x = slipped(TWO, 1, 9);
        x.hops(0);
        x.swaps(1, 0);
        inches("swapped", x, 0, -9);
        check.due("swapped: FEET", x.now(6), 1);
        check.due("swapped: who is within", x.place(0, 0), 1);
    }

    private static void mindsEnds() {
        RankWheels x = new RankWheels();
        check.due("minds(0, 0)", x.minds(0, 0), 57);
        check.due("minds(10, 10)", x.minds(10, 10), 0);
        check.due("minds(0, 10)", x.minds(0, 10), 120);
        check.due("minds(10, 0)", x.minds(10, 0), 10);
        check.due("EYE", x.now(2), 10);
        check.due("ELBOW", x.now(3), 0);
        check.due("minds(5, 2)", x.minds(5, 2), 110);
        edges.beyond("minds(n, 0)", (y, n) -> y.minds(n, 0), 0, 10);
        edges.beyond("minds(0, n)", (y, n) -> y.minds(0, n), 0, 10);
        edges.beyond("minds(n, 10)", (y, n) -> y.minds(n, 10), 0, 10);
        edges.beyond("minds(10, n)", (y, n) -> y.minds(10, n), 0, 10);
        edges.beyond("minds(n, n)", (y, n) -> y.minds(n, n), 0, 10);
    }

    private static void speedsEnds() {
        RankWheels x = new RankWheels();
        check.due("speeds(1)", x.speeds(1), 30);
        check.due("PACE", x.now(1), 1);
        check.due("speeds(60)", x.speeds(60), 1);
        check.due("PACE", x.now(1), 60);
        check.due("speeds(30)", x.speeds(30), 60);
        edges.beyond("speeds(n)", RankWheels::speeds, 1, 60);
    }

    // ---- promise 13

    private static RankWheels undoneBusy() {
        RankWheels x = Edges.busyThree();
        for (int i = 0; i < 6; i++) {
            x.undo();
        }
        return x;
    }

    private static void undoNone() {
        check.due("six deeds are known", Edges.busyThree().count(2), 6);
        check.due("none is left", undoneBusy().count(2), 0);
        edges.changesNothing("undo() of none", DoneEdgesTest::undoneBusy, RankWheels::undo, Check.STATE);
        RankWheels x = undoneBusy();
        x.hops(0);
        check.due("one again", x.undo(), 0);
        check.due("and none", x.undo(), Check.STATE);
    }

    private static void undoTenKnown() {
        for (int deeds = 1; deeds <= 32; deeds++) {
            RankWheels x = Check.told(TWO);
            for (int n = 1; n <= deeds; n++) {
                x.slips(1, n);
            }
            int known = Math.min(10, deeds);
            check.due(deeds + " deeds: count(2)", x.count(2), known);
            for (int left = known - 1; left >= 0; left--) {
                check.due(deeds + " deeds: undo()", x.undo(), left);
                int still = deeds - known + left;
                check.due(deeds + " deeds, " + still + " left", x.place(1, 1), -still * (still + 1) / 2);
            }
            check.due(deeds + " deeds: undo() of no more", x.undo(), Check.STATE);
            check.due(deeds + " deeds: count(2) then", x.count(2), 0);
        }
    }

    private static void undoesEach(String deed, Edges.Ask ask) {
        RankWheels x = Edges.busyThree();
        ask.of(x);
        check.due(deed + " is known", x.count(2), 7);
        check.due(deed + ", undo()", x.undo(), 6);
        check.holds(deed + ": all is as ahead of it", Tale.of(x).equals(Tale.of(Edges.busyThree())));
    }

    private static void undoEachDeed() {
        undoesEach("wheels()", RankWheels::wheels);
        undoesEach("slips(2, 99)", x -> x.slips(2, 99));
        undoesEach("hops(0)", x -> x.hops(0));
        undoesEach("swaps(0, 1)", x -> x.swaps(0, 1));
        undoesEach("minds(10, 0)", x -> x.minds(10, 0));
        undoesEach("speeds(1)", x -> x.speeds(1));
    }

    /** What is no deed is not known, and so the latest deed is undone behind it. */
    private static void noDeeds() {
        RankWheels x = Check.told(THREE);
        x.slips(1, 7);
        x.slips(1, 8);
        x.type('q');
        x.rank();
        x.clear();
        x.saw(1, 0, 0);
        x.whose(0);
        x.forget();
        x.rate(3, 1);
        x.keep(0);
        x.dressed();
        x.mix(0);
        x.order(0);
        x.behind(0);
        x.post(0, 1);
        x.slips(3, 1);
        x.slips(0, 100);
        x.speeds(61);
        check.due("two deeds", x.count(2), 2);
        check.due("undo()", x.undo(), 1);
        inches("of the latest", x, 0, -7, 0);
        x.back(0);
        check.due("back() is none either", x.undo(), 1);
        inches("of the latest in the IMAGE", x, 0, -7, 0);
    }

    // ---- promise 14

    private static void nowEnds() {
        RankWheels x = Check.told(THREE + "p 20;e 3;w 4;");
        x.wheels();
        x.slips(2, 6);
        x.hops(1);
        int[] due = {1, 20, 3, 4, 6, 1, 2, 2};
        for (int what = 0; what < due.length; what++) {
            check.due("now(" + what + ")", x.now(what), due[what]);
        }
        edges.beyond("now(n)", RankWheels::now, 0, 7);
    }

    private static void bulge(String when, RankWheels x, int bulge, int place) {
        check.due(when + ": BULGE", x.now(4), bulge);
        check.due(when + ": its PLACE", x.now(5), place);
    }

    private static void bulgeEnds() {
        bulge("nobody", new RankWheels(), 0, Check.NONE);
        bulge("one", Check.told("m 1 1;"), 0, Check.NONE);
        bulge("one behind", slipped("m 1 1;", 0, 99), 0, Check.NONE);
        bulge("two in line", Check.told(TWO), 0, 0);
        bulge("the second behind", slipped(TWO, 1, 99), 99, 0);
        bulge("the first behind", slipped(TWO, 0, 99), 99, 0);
        bulge("as far as it goes", slipped(TWO, 0, 999), 999, 0);
        // of several the least
        bulge("the middle behind", slipped(THREE, 1, 5), 5, 0);
        bulge("the last behind", slipped(THREE, 2, 5), 5, 1);
        RankWheels x = slipped(THREE, 1, 5);
        x.slips(2, 11);
        bulge("0 -5 -11", x, 6, 1);
        x.slips(0, 11);
        bulge("-11 -5 -11", x, 6, 0);
        RankWheels seven = slipped(Edges.SEVEN, 6, 3);
        bulge("the seventh behind", seven, 3, 5);
        seven.slips(0, 2);
        bulge("the first less so", seven, 3, 5);
        seven.slips(0, 1);
        bulge("the first as well", seven, 3, 0);
    }

    private static void feetAndInLineEnds() {
        RankWheels x = Check.told(Edges.SEVEN);
        check.due("FEET at first", x.now(6), 0);
        check.due("in line at first", x.now(7), 7);
        int bits = 0;
        for (int p = 0; p < 7; p++) {
            x.hops(p);
            x.slips(p, 1);
            bits += 1 << p;
            check.due("FEET", x.now(6), bits);
            check.due("in line", x.now(7), 6 - p);
        }
        check.due("FEET, all right", x.now(6), 127);
        check.due("ahead is not in line either", farAhead(1).now(7), 1);
    }
}
