/** Promises 15 to 23, each where the document names an end of something; all answers worked out by hand. */
public final class ComingEdgesTest {
    private static final Check check = new Check();
    private static final Edges edges = new Edges(check, Check.BAD);
    private static final String TWO = "m 60 1;m 60 1;";
    private static final String THREE = "m 60 1;m 60 1;m 60 1;";
    private static final String FOUR = "m 60 1;m 60 1;m 60 1;m 60 1;";

    public static void main(String[] args) {
        check.promise(15);
        dressedEnds();
        check.promise(16);
        looksEnds();
        looksAreFromNowOn();
        check.promise(17);
        mixEnds();
        mixTies();
        check.promise(18);
        fastestEnds();
        check.promise(19);
        orderEnds();
        orderTies();
        orderOfAsLittle();
        check.promise(20);
        inStepEnds();
        check.promise(21);
        behindEnds();
        behindNowAndSixtyPaces();
        behindWantsSomething();
        check.promise(22);
        postEnds();
        postAtTheEnds();
        check.promise(23);
        oddsEnds();
        oddsNoughtAndAll();
        check.end("ComingEdgesTest");
    }

    /** A rank told by the text, each PLACE behind by what is told. */
    private static RankWheels at(String text, int... behind) {
        RankWheels x = Check.told(text);
        for (int p = 0; p < behind.length; p++) {
            for (int left = behind[p]; left > 0; left -= 99) {
                x.slips(p, Math.min(99, left));
            }
        }
        return x;
    }

    /** Two men, of whom the one without can win an inch a pace, and does. */
    private static RankWheels inchAPace(int behind) {
        return at("m 60 1;m 31 1;p 30;e 0;w 10;", 0, behind);
    }

    // ---- promise 15

    private static void dressedEnds() {
        check.due("nobody", new RankWheels().dressed(), 0);
        check.due("one alone in line", Check.told("m 1 1;").dressed(), 0);
        check.due("one alone behind", at("m 60 1;e 10;w 10;", 1).dressed(), Check.NONE);
        check.due("in line", inchAPace(0).dressed(), 0);
        check.due("1 behind", inchAPace(1).dressed(), 1);
        check.due("2 behind", inchAPace(2).dressed(), 2);
        check.due("299 behind", inchAPace(299).dressed(), 299);
        check.due("300 behind", inchAPace(300).dressed(), 300);
        check.due("301 behind", inchAPace(301).dressed(), Check.NONE);
        check.due("999 behind", inchAPace(999).dressed(), Check.NONE);
        // all alike, but not 0
        check.due("all 5 behind", at(TWO, 5, 5).dressed(), Check.NONE);
        check.due("it changes for ever", at(THREE + "p 30;e 10;w 10;", 0, 10).dressed(), Check.NONE);
        check.due("it stays for ever", at(TWO + "e 0;w 0;", 0, 1).dressed(), Check.NONE);
        // in line now, but not in a pace: it is now that counts
        check.due("short legs", Check.told("m 1 1;m 1 1;p 60;").dressed(), 0);
        RankWheels x = inchAPace(300);
        x.wheels();
        check.due("a pace on", x.dressed(), 299);
        RankWheels y = inchAPace(301);
        y.wheels();
        check.due("a pace on, within 300", y.dressed(), 300);
        anInchAhead();
        edges.onlyLooks("dressed()", RankWheels::dressed);
    }

    /** INCHES are 0 0 1 and FEET too: what is in line is told by INCHES alone. */
    private static void anInchAhead() {
        RankWheels x = at(THREE + "p 30;e 10;w 10;", 0, 1);
        x.wheels(); // 0 1 -1
        x.minds(0, 10);
        x.wheels(); // 0 0 1
        x.hops(2);
        check.due("an inch ahead", x.place(2, 1), 1);
        check.due("on the right foot", x.now(6), 4);
        check.due("an inch ahead: dressed()", x.dressed(), 1);
        check.due("an inch ahead: mix(1)", x.mix(1), 1);
    }

    // ---- promise 16

    private static void looksEnds() {
        RankWheels x = inchAPace(99);
        int[] paces = {0, 1, 59, 60};
        for (int n : paces) {
            check.due("looks(" + n + ", 0)", x.looks(n, 0), 0);
            check.due("looks(" + n + ", 1)", x.looks(n, 1), n - 99);
            check.due("looks(" + n + ", -1)", x.looks(n, -1), 99 - n);
        }
        RankWheels seven = at(Edges.SEVEN, 1, 0, 0, 0, 0, 0, 7);
        check.due("looks(0, 0) of seven", seven.looks(0, 0), -1);
        check.due("looks(0, 6) of seven", seven.looks(0, 6), -7);
        check.due("looks(0, -1) of seven", seven.looks(0, -1), 7);
        check.due("nobody: looks(60, -1)", new RankWheels().looks(60, -1), 0);
        check.due("one alone: looks(60, -1)", at("m 9 9;", 9).looks(60, -1), 0);
        check.due("one alone: looks(60, 0)", at("m 9 9;", 9).looks(60, 0), -9);
        int[] places = {-1, 0, 2};
        for (int p : places) {
            edges.beyond("looks(n, " + p + ")", (y, n) -> y.looks(n, p), 0, 60);
        }
        edges.beyondMen("looks(0, n)", (y, n) -> y.looks(0, n), -1);
        edges.beyondMen("looks(60, n)", (y, n) -> y.looks(60, n), -1);
        edges.refused("looks(-1, -2)", Edges::busyThree, y -> y.looks(-1, -2));
        edges.onlyLooks("looks(60, -1)", y -> y.looks(60, -1));
        edges.onlyLooks("looks(60, 2)", y -> y.looks(60, 2));
        edges.onlyLooks("looks(0, 0)", y -> y.looks(0, 0));
    }

    private static void looksAreFromNowOn() {
        RankWheels x = inchAPace(99);
        for (int n = 0; n <= 3; n++) {
            check.due("looks(60, 1) behind " + n, x.looks(60, 1), n - 39);
            check.due("looks(0, 1) behind " + n, x.looks(0, 1), n - 99);
            x.wheels();
        }
        // INCHES end at -999 there, too
        check.due("looks(17, 1)", Check.told("m 1 1;m 1 1;p 60;e 0;w 0;").looks(16, 1), -944);
        check.due("looks(17, 1)", Check.told("m 1 1;m 1 1;p 60;e 0;w 0;").looks(17, 1), -999);
        check.due("looks(60, -1)", Check.told("m 1 1;m 1 1;p 60;e 0;w 0;").looks(60, -1), 999);
    }

    // ---- promise 17

    private static void mix(String when, RankWheels x, int both, int paces) {
        check.due(when + ": mix(0)", x.mix(0), both);
        check.due(when + ": mix(1)", x.mix(1), paces);
    }

    private static void mixEnds() {
        mix("nobody", new RankWheels(), 0, 0);
        mix("in line", Check.told(TWO + "e 10;w 10;"), 0, 0);
        mix("one alone in line", Check.told("m 9 9;"), 0, 0);
        mix("one alone behind", at("m 9 9;", 1), Check.NONE, Check.NONE);
        // only all of what is seen, of what is felt, of both; then something between
        mix("EYE 10", at(TWO, 1, 0), 110, 1);
        mix("ELBOW 10", at(TWO, 0, 1), 10, 1);
        // whoever sees, or feels, a tenth of it beside him would go back by 2
        mix("EYE 0 alone", at(THREE, 0, 0, 20), 10, 1);
        mix("ELBOW 0 alone", at(THREE, 20, 0, 0), 110, 1);
        mix("both 10", at(THREE + "p 1;", 20, 0, 12), 120, 1);
        mix("EYE 5, ELBOW 8", at("m 60 1;m 60 1;m 8 1;p 2;", 1, 8, 0), 63, 2);
        mix("299", inchAPace(299), 10, 299);
        mix("300", inchAPace(300), 10, 300);
        mix("301", inchAPace(301), Check.NONE, Check.NONE);
        edges.beyond("mix(n)", RankWheels::mix, 0, 1);
        edges.onlyLooks("mix(0)", x -> x.mix(0));
        edges.onlyLooks("mix(1)", x -> x.mix(1));
    }

    private static void mixTies() {
        // by each EYE and ELBOW 10, or by EYE 10 and each ELBOW: the least EYE comes first
        mix("least EYE", at(FOUR, 0, 0, 1, 0), 10, 2);
        mix("least ELBOW", at(TWO, 1, 0), 110, 1);
        // he without wins an inch a pace by other ELBOWS, too, but the last one by 10 alone
        mix("to the last inch", at("m 60 1;m 31 1;p 30;", 0, 9), 10, 9);
        // what they are now is nothing to it
        RankWheels x = at(FOUR, 0, 0, 1, 0);
        x.minds(10, 0);
        mix("whatever they are", x, 10, 2);
    }

    // ---- promise 18

    private static void fastestEnds() {
        check.due("nobody", new RankWheels().fastest(), 60);
        check.due("one alone", Check.told("m 1 1;").fastest(), 60);
        int[] legs = {1, 2, 30, 59, 60};
        for (int leg : legs) {
            check.due("a LEG of " + leg, Check.told("m 1 1;m " + leg + " 1;").fastest(), leg);
        }
        // he in the middle wants half, cut: his LEG of 1 is enough for 3, of 29 for 59, of 30 for all
        check.due("in the middle 1", Check.told("m 1 1;m 1 1;m 60 1;").fastest(), 3);
        check.due("in the middle 29", Check.told("m 1 1;m 29 1;m 60 1;").fastest(), 59);
        check.due("in the middle 30", Check.told("m 1 1;m 30 1;m 60 1;").fastest(), 60);
        String rest = "m60 1;m60 1;m60 1;m60 1;m60 1;";
        check.due("next to him within 1", Check.told("m1 1;m1 1;" + rest).fastest(), 11);
        check.due("next to him within 9", Check.told("m1 1;m9 1;" + rest).fastest(), 59);
        check.due("next to him within 10", Check.told("m1 1;m10 1;" + rest).fastest(), 60);
        check.due("legs of 1 at PACE 60", Check.told("m 1 1;m 1 1;p 60;").fastest(), 1);
        RankWheels x = Check.told("m 7 1;m 60 1;p 1;");
        check.due("he with the long legs without", x.fastest(), 60);
        x.swaps(0, 1);
        check.due("he with the short legs without", x.fastest(), 7);
        x.undo();
        x.slips(1, 99);
        check.due("INCHES are nothing to it", x.fastest(), 60);
        edges.onlyLooks("fastest()", RankWheels::fastest);
    }

    // ---- promise 19

    private static void order(String text, int above, int apart, int... men) {
        RankWheels x = Check.told(text);
        check.due("order(-1) of " + text, x.order(-1), above);
        check.due("order(-2) of " + text, x.order(-2), apart);
        for (int p = 0; p < men.length; p++) {
            check.due("order(" + p + ") of " + text, x.order(p), men[p]);
        }
    }

    private static void orderEnds() {
        order("", 0, 0);
        order("m 1 99;p 60;", 0, 0, 0);
        order("m 1 1;m 1 99;p 1;", 0, 98, 0, 1);
        order("m1 1;m1 99;m1 1;m1 99;m1 1;m1 99;m1 1;p60;", 204, 98, 0, 2, 4, 6, 1, 3, 5);
        order("m1 1;m1 1;m1 1;m1 1;m1 1;m1 1;m1 1;p1;", 0, 0, 0, 1, 2, 3, 4, 5, 6);
        edges.beyondMen("order(n)", RankWheels::order, -2);
        edges.refused("order(-3)", RankWheels::new, x -> x.order(-3));
        for (int p = -2; p <= 2; p++) {
            int asked = p;
            edges.onlyLooks("order(" + p + ")", x -> x.order(asked));
        }
    }

    private static void orderTies() {
        order(THREE, 0, 0, 0, 1, 2);
        // 9 5 1 and 1 5 9 are as little apart: the lesser MAN within
        order("m 60 9;m 60 1;m 60 5;", 0, 8, 0, 2, 1);
        order("m 60 1;m 60 9;m 60 5;", 0, 8, 0, 2, 1);
        order("m 60 5;m 60 1;m 60 9;", 0, 8, 1, 0, 2);
        // whoever is without has an inch too little: all ways are alike by LEGS and HEIGHTS
        order("m 59 4;m 59 4;m 59 4;p 60;", 1, 0, 0, 1, 2);
        // two of one HEIGHT: PLACE by PLACE the lesser MAN
        order("m 60 7;m 60 3;m 60 7;m 60 3;", 0, 4, 0, 2, 1, 3);
    }

    private static void orderOfAsLittle() {
        // LEGS come first: 0 2 1 is as little apart and the first such, but an inch is missing
        order("m 30 1;m 29 99;m 60 1;p 30;", 0, 98, 1, 0, 2);
        order("m 60 50;m 30 1;m 59 99;p 60;", 0, 147, 1, 2, 0);
        // a LEG that is just what he WANTS leaves nothing above; one less leaves 1
        order("m 15 1;m 30 1;m 1 1;p 30;", 0, 0, 2, 0, 1);
        order("m 14 1;m 30 1;m 1 1;p 30;", 1, 0, 2, 0, 1);
        RankWheels x = Check.told("m 15 1;m 30 1;m 1 1;p 30;");
        x.swaps(0, 2);
        x.slips(1, 99);
        x.hops(1);
        check.due("whoever stands where", x.order(0), 2);
        x.speeds(1);
        check.due("by PACE as it is", x.order(0), 0);
        x.speeds(60);
        check.due("order(-1) at PACE 60", x.order(-1), 45);
    }

    // ---- promise 20

    private static RankWheels onFeet(int number, int bits) {
        RankWheels x = Check.told("m1 1;".repeat(number));
        for (int p = 0; p < number; p++) {
            if ((bits >> p & 1) == 1) {
                x.hops(p);
            }
        }
        return x;
    }

    private static void inStepEnds() {
        check.due("nobody", new RankWheels().inStep(), 0);
        check.due("one, left", onFeet(1, 0).inStep(), 0);
        check.due("one, right", onFeet(1, 1).inStep(), 0);
        check.due("seven, all left", onFeet(7, 0).inStep(), 0);
        check.due("seven, all right", onFeet(7, 127).inStep(), 0);
        check.due("two unlike change for ever", onFeet(2, 1).inStep(), Check.NONE);
        check.due("seven by turns change for ever", onFeet(7, 0b1010101).inStep(), Check.NONE);
        check.due("two and two stay for ever", onFeet(4, 0b0011).inStep(), Check.NONE);
        check.due("he within alone", onFeet(7, 1).inStep(), 1);
        check.due("he without alone", onFeet(7, 64).inStep(), 1);
        check.due("all but him without", onFeet(7, 63).inStep(), 1);
        // right left right left right left left: it goes inward by one at each pace; no seven need more
        check.due("the longest", onFeet(7, 0b0010101).inStep(), 5);
        check.due("the longest of six", onFeet(6, 0b001010).inStep(), 4);
        RankWheels x = onFeet(7, 0b0010101);
        for (int left = 5; left >= 0; left--) {
            check.due("the longest, paces left", x.inStep(), left);
            x.wheels();
        }
        edges.onlyLooks("inStep()", RankWheels::inStep);
    }

    // ---- promise 21

    private static void behindEnds() {
        // he without wants 1: k must be above n
        RankWheels slow = Check.told(TWO + "p 1;");
        check.due("behind(0)", slow.behind(0), 1);
        check.due("behind(58)", slow.behind(58), 59);
        check.due("behind(59)", slow.behind(59), 60);
        check.due("behind(60)", slow.behind(60), Check.NONE);
        check.due("behind(99)", slow.behind(99), Check.NONE);
        RankWheels fast = Check.told(TWO + "p 60;");
        check.due("60: behind(0)", fast.behind(0), 1);
        check.due("60: behind(59)", fast.behind(59), 1);
        check.due("60: behind(60)", fast.behind(60), 2);
        check.due("60: behind(99)", fast.behind(99), 2);
        check.due("INCHES, too: -60 and 60 are not above 0", at(TWO + "p 1;e 0;w 0;", 0, 60).behind(0), Check.NONE);
        check.due("-59 and 60 are", at(TWO + "p 1;e 0;w 0;", 0, 59).behind(0), 60);
        edges.beyond("behind(n)", RankWheels::behind, 0, 99);
        edges.refused("nobody: behind(-1)", RankWheels::new, x -> x.behind(-1));
        edges.refused("nobody: behind(100)", RankWheels::new, x -> x.behind(100));
        edges.onlyLooks("behind(0)", x -> x.behind(0));
        edges.onlyLooks("behind(99)", x -> x.behind(99));
    }

    private static void behindNowAndSixtyPaces() {
        // he without loses an inch a pace: 60 of them behind 60 paces, and 61 don't count
        RankWheels losing = Check.told("m 9 1;m 9 1;p 10;e 0;w 0;");
        check.due("70 less 60 are above 9", losing.behind(9), 7);
        check.due("70 less 60 are not above 10", losing.behind(10), 8);
        // NOW counts: he is 99 behind, 49 a pace on, and in line then
        RankWheels winning = at(TWO + "p 10;e 0;w 10;", 0, 99);
        check.due("100 less 99 are above 0", winning.behind(0), 10);
        check.due("100 less 99 are not above 1", winning.behind(1), 11);
        winning.wheels();
        check.due("50 less 49 a pace on", winning.behind(0), 5);
        // 10 behind now, behind the pace 0 10 -10; k times 15 of him in the middle, 30 of him without
        RankWheels swinging = at(THREE + "p 30;e 10;w 10;", 0, 10);
        check.due("behind(4)", swinging.behind(4), 1);
        check.due("behind(5)", swinging.behind(5), 2);
    }

    private static void behindWantsSomething() {
        check.due("nobody", new RankWheels().behind(99), 0);
        check.due("one alone", at("m 9 9;", 99).behind(99), 0);
        // he within wants nothing, so it is nothing how far behind he is
        check.due("he within", at(TWO + "p 60;e 0;w 0;", 99).behind(0), 1);
        // at PACE 1 of three he in the middle wants nothing either; at 2 he wants an inch
        check.due("PACE 1", at(THREE + "p 1;e 0;w 0;", 0, 50).behind(0), 1);
        check.due("PACE 2", at(THREE + "p 2;e 0;w 0;", 0, 50).behind(0), 51);
        // all are ahead: none of them is in the way of the next rank, which may wheel as they do
        RankWheels ahead = at(THREE + "p 2;e 10;w 10;", 0, 20);
        ahead.wheels();
        ahead.wheels();
        ahead.minds(0, 0);
        check.due("19 ahead, behind(18)", ahead.behind(18), 0);
        check.due("19 ahead, behind(19)", ahead.behind(19), 1);
        // 25 10 25, and so it stays: 10 are above 9, so nothing of the 15 that he WANTS is needed
        RankWheels more = at(THREE + "p 30;e 10;w 10;", 0, 10);
        for (int i = 0; i < 4; i++) {
            more.wheels();
        }
        more.minds(0, 0);
        check.due("10 ahead, behind(8)", more.behind(8), 0);
        check.due("10 ahead, behind(9)", more.behind(9), 0);
        check.due("10 ahead, behind(10)", more.behind(10), 1);
        check.due("10 ahead, behind(24)", more.behind(24), 1);
        check.due("10 ahead, behind(25)", more.behind(25), 2);
    }

    // ---- promise 22

    private static void postEnds() {
        RankWheels x = at(THREE + "p 10;e 0;w 0;");
        check.due("post(0, 1)", x.post(0, 1), 0);
        check.due("post(0, 20)", x.post(0, 20), 0);
        check.due("post(1, 1)", x.post(1, 1), 5);
        check.due("post(1, 20)", x.post(1, 20), 100);
        check.due("post(2, 1)", x.post(2, 1), 10);
        check.due("post(2, 19)", x.post(2, 19), 190);
        check.due("post(2, 20)", x.post(2, 20), 200);
        check.due("post(6, 20) of seven", Check.told("m60 1;".repeat(7) + "p 6;e 0;w 0;").post(6, 20), 120);
        edges.beyond("post(0, n)", (y, n) -> y.post(0, n), 1, 20);
        edges.beyond("post(2, n)", (y, n) -> y.post(2, n), 1, 20);
        edges.beyondMen("post(n, 1)", (y, n) -> y.post(n, 1), 0);
        edges.beyondMen("post(n, 20)", (y, n) -> y.post(n, 20), 0);
        edges.onlyLooks("post(0, 20)", y -> y.post(0, 20));
        edges.onlyLooks("post(2, 1)", y -> y.post(2, 1));
    }

    private static void postAtTheEnds() {
        check.due("one alone", at("m 9 9;", 5).post(0, 20), 0);
        // 16 times 60 are 960; INCHES end at -999
        RankWheels far = Check.told(TWO + "p 60;e 0;w 0;");
        check.due("post(1, 16)", far.post(1, 16), 960);
        check.due("post(1, 17)", far.post(1, 17), 999);
        check.due("post(1, 20)", far.post(1, 20), 999);
        // he is held though he could win 5 back, and he within sees him go ahead of it, or not
        check.due("held", at(TWO + "p 10;e 0;w 10;", 0, 5).post(1, 1), 15);
        check.due("he within is held, who would come up", at(TWO + "p 10;e 10;w 0;", 5).post(0, 1), 5);
        check.due("not he", at(TWO + "p 10;e 10;w 0;", 5).post(1, 1), 10);
    }

    // ---- promise 23

    private static void fraction(RankWheels x, int tenths, int k, int upper, int lower) {
        check.due("odds(" + tenths + ", " + k + ", 0)", x.odds(tenths, k, 0), upper);
        check.due("odds(" + tenths + ", " + k + ", 1)", x.odds(tenths, k, 1), lower);
    }

    private static void oddsEnds() {
        RankWheels seven = Check.told(Edges.SEVEN);
        fraction(seven, 0, 0, 1, 1);
        fraction(seven, 0, 7, 1, 1);
        fraction(seven, 10, 0, 0, 1);
        fraction(seven, 10, 6, 0, 1);
        fraction(seven, 10, 7, 1, 1);
        fraction(seven, 1, 0, 4782969, 10000000);
        fraction(seven, 9, 0, 1, 10000000);
        fraction(seven, 9, 6, 5217031, 10000000);
        fraction(seven, 1, 6, 9999999, 10000000);
        fraction(seven, 9, 7, 1, 1);
        edges.beyond("odds(n, 0, 0)", (x, n) -> x.odds(n, 0, 0), 0, 10);
        edges.beyond("odds(n, 7, 1)", (x, n) -> x.odds(n, 7, 1), 0, 10);
        edges.beyond("odds(0, n, 0)", (x, n) -> x.odds(0, n, 0), 0, 7);
        edges.beyond("odds(10, n, 1)", (x, n) -> x.odds(10, n, 1), 0, 7);
        edges.beyond("odds(0, 0, n)", (x, n) -> x.odds(0, 0, n), 0, 1);
        edges.beyond("odds(10, 7, n)", (x, n) -> x.odds(10, 7, n), 0, 1);
        edges.refused("nobody: odds(11, 0, 0)", RankWheels::new, x -> x.odds(11, 0, 0));
        edges.refused("nobody: odds(0, 8, 0)", RankWheels::new, x -> x.odds(0, 8, 0));
        edges.onlyLooks("odds(3, 1, 0)", x -> x.odds(3, 1, 0));
        edges.onlyLooks("odds(3, 1, 1)", x -> x.odds(3, 1, 1));
    }

    private static void oddsNoughtAndAll() {
        RankWheels nobody = new RankWheels();
        fraction(nobody, 0, 0, 1, 1);
        fraction(nobody, 10, 0, 1, 1);
        fraction(nobody, 10, 7, 1, 1);
        RankWheels one = Check.told("m 9 9;");
        fraction(one, 3, 0, 7, 10);
        fraction(one, 5, 0, 1, 2);
        fraction(one, 3, 1, 1, 1);
        fraction(one, 10, 0, 0, 1);
        // k may be more than there are
        fraction(one, 10, 7, 1, 1);
        fraction(Check.told(Edges.THREE), 10, 2, 0, 1);
        fraction(Check.told(Edges.THREE), 10, 3, 1, 1);
        fraction(Check.told(Edges.THREE), 10, 4, 1, 1);
    }
}
