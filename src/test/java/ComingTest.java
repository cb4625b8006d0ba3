/** Promises 15 to 23: what comes; all answers worked out by hand. */
public final class ComingTest {
    private static final Check check = new Check();

    public static void main(String[] args) {
        dressed();
        looks();
        mix();
        fastest();
        order();
        inStep();
        behind();
        post();
        odds();
        check.end("ComingTest");
    }

    /** Two men, of whom the one without can win an inch a pace, and does. */
    private static RankWheels inchAPace(int behind) {
        RankWheels x = Check.told("m 60 1; m 31 1; p 30; e 0; w 10;");
        for (int left = behind; left > 0; left -= 99) {
            x.slips(1, Math.min(99, left));
        }
        return x;
    }

    private static void unchanged(String call, RankWheels x, int... inches) {
        check.due(call + ": nothing more to undo", x.count(2), 1);
        check.due(call + ": no PACES", x.now(0), 0);
        check.due(call + ": EYE", x.now(2), 5);
        check.due(call + ": ELBOW", x.now(3), 2);
        check.due(call + ": FEET", x.now(6), 0);
        for (int p = 0; p < inches.length; p++) {
            check.due(call + ": INCHES", x.place(p, 1), inches[p]);
        }
    }

    private static void dressed() {
        check.due("nobody is dressed", new RankWheels().dressed(), 0);
        check.due("in line", inchAPace(0).dressed(), 0);
        check.due("1 behind", inchAPace(1).dressed(), 1);
        check.due("300 behind", inchAPace(300).dressed(), 300);
        check.due("301 behind", inchAPace(301).dressed(), Check.NONE);
        RankWheels x = Check.told("m 60 1; m 60 1;");
        x.slips(1, 40);
        // 2 tenths of 40, 32, 26, 21, 17, 14, 12, 10, 8, 7, 6, 5, and then less than an inch of 4
        check.due("never", x.dressed(), Check.NONE);
        unchanged("dressed()", x, 0, -40);
        RankWheels y = Check.told("m 60 1; m 60 1; e 10; w 10;");
        y.slips(0, 5);
        // both go to where the other was: 0, -5, and the one within, who can't go back, stays at 0
        check.due("5, then 0", y.dressed(), 2);
    }

    private static void looks() {
        RankWheels x = Check.told("m 60 1; m 60 2; m 60 3;");
        x.slips(1, 12);
        int[][] due = {{0, -12, 0}, {0, -4, -2}, {0, -3, -2}};
        int[] bulge = {12, 4, 3};
        for (int n = 0; n < 3; n++) {
            for (int p = 0; p < 3; p++) {
                check.due("looks(" + n + ", " + p + ")", x.looks(n, p), due[n][p]);
            }
            check.due("looks(" + n + ", -1)", x.looks(n, -1), bulge[n]);
        }
        unchanged("looks", x, 0, -12, 0);
        check.due("60 of 99", inchAPace(99).looks(60, 1), -39);
        check.due("looks(60, -1)", inchAPace(99).looks(60, -1), 39);
        check.due("looks(61, 0)", x.looks(61, 0), Check.BAD);
        check.due("looks(-1, 0)", x.looks(-1, 0), Check.BAD);
        check.due("looks(61, -1)", x.looks(61, -1), Check.BAD);
        check.due("looks(0, -2)", x.looks(0, -2), Check.BAD);
        check.due("looks(0, 3)", x.looks(0, 3), Check.BAD);
        check.due("looks(0, 7)", x.looks(0, 7), Check.BAD);
        check.due("nobody's BULGE", new RankWheels().looks(5, -1), 0);
        check.due("nobody's PLACE", new RankWheels().looks(5, 0), Check.BAD);
    }

    private static void mix() {
        check.due("nobody: mix(0)", new RankWheels().mix(0), 0);
        check.due("nobody: mix(1)", new RankWheels().mix(1), 0);
        RankWheels x = Check.told("m 60 1; m 60 1;");
        x.slips(1, 20);
        // he without only feels: by 10 tenths in one pace; he within sees nothing to go on for
        check.due("mix(0)", x.mix(0), 10);
        check.due("mix(1)", x.mix(1), 1);
        unchanged("mix", x, 0, -20);
        check.due("300 behind: mix(0)", inchAPace(300).mix(0), 10);
        check.due("300 behind: mix(1)", inchAPace(300).mix(1), 300);
        check.due("301 behind: mix(0)", inchAPace(301).mix(0), Check.NONE);
        check.due("301 behind: mix(1)", inchAPace(301).mix(1), Check.NONE);
        RankWheels y = Check.told("m 60 1; m 60 1;");
        y.slips(0, 20);
        // he within sees 20: 10 tenths of it; then no ELBOW may pull him without back
        check.due("by the EYE: mix(0)", y.mix(0), 110);
        check.due("by the EYE: mix(1)", y.mix(1), 1);
        check.due("mix(-1)", x.mix(-1), Check.BAD);
        check.due("mix(2)", x.mix(2), Check.BAD);
    }

    private static void fastest() {
        check.due("nobody", new RankWheels().fastest(), 60);
        check.due("one alone", Check.told("m 1 1;").fastest(), 60);
        check.due("legs of 1", Check.told("m 1 1; m 1 1;").fastest(), 1);
        check.due("a leg of 2", Check.told("m 1 1; m 2 1;").fastest(), 2);
        check.due("the one within wants nothing", Check.told("m 1 1; m 60 1;").fastest(), 60);
        // PLACE 1 of 2 wants half, cut: 21 at 43
        RankWheels x = Check.told("m 60 1; m 21 1; m 50 1; p 7;");
        check.due("he in the middle", x.fastest(), 43);
        x.swaps(1, 2);
        check.due("now he is without", x.fastest(), 21);
    }

    private static void ordered(String text, int above, int apart, int... men) {
        RankWheels x = Check.told(text);
        check.due("order(-1) of " + text, x.order(-1), above);
        check.due("order(-2) of " + text, x.order(-2), apart);
        for (int p = 0; p < men.length; p++) {
            check.due("order(" + p + ") of " + text, x.order(p), men[p]);
        }
        check.due("order(-3)", x.order(-3), Check.BAD);
        check.due("order(" + men.length + ")", x.order(men.length), Check.BAD);
        check.due("order(7)", x.order(7), Check.BAD);
        check.due("nothing is done", x.count(2), 0);
    }

    private static void order() {
        ordered("", 0, 0);
        ordered("m 1 9; p 60;", 0, 0, 0);
        ordered("m 60 1; m 60 1; m 60 1;", 0, 0, 0, 1, 2);
        // by HEIGHTS alone: 1 5 9, and not 9 5 1, which comes later
        ordered("m 60 9; m 60 1; m 60 5;", 0, 8, 0, 2, 1);
        // the long leg goes without, though 0 2 1 comes first and is as little apart
        ordered("m 30 1; m 10 50; m 15 2; p 30;", 0, 49, 1, 2, 0);
        // 10 and 25 inches of legs are missing whoever goes without; HEIGHTS choose
        ordered("m 5 1; m 5 9; m 5 2; p 30;", 35, 8, 0, 2, 1);
        // at PACE 1 of three only he without wants an inch
        ordered("m 1 9; m 1 1; m 1 1; p 1;", 0, 8, 0, 1, 2);
        RankWheels x = Check.told("m 20 1; m 40 2; p 20;");
        check.due("order(0) at PACE 20", x.order(0), 0);
        x.swaps(0, 1);
        check.due("order(0), whoever stands where", x.order(0), 0);
        x.speeds(30);
        check.due("order(1) at PACE 30", x.order(1), 1);
        x.speeds(60);
        check.due("order(-1) at PACE 60", x.order(-1), 20);
    }

    private static void inStep() {
        check.due("nobody", new RankWheels().inStep(), 0);
        RankWheels x = Check.told("m 9 1; m 9 1; m 9 1; m 9 1; m 9 1;");
        check.due("all left", x.inStep(), 0);
        for (int p = 0; p < 5; p++) {
            x.hops(p);
        }
        check.due("all right", x.inStep(), 0);
        x.hops(0);
        check.due("01111", x.inStep(), 1);
        x.hops(2);
        // 01011: 10111, 01111 and then 11111
        check.due("01011", x.inStep(), 3);
        x.hops(1);
        check.due("00011", x.inStep(), Check.NONE);
        check.due("nothing is done", x.now(0), 0);
        check.due("the FEET stay", x.now(6), 24);
        RankWheels two = Check.told("m 9 1; m 9 1;");
        two.hops(1);
        check.due("two change for ever", two.inStep(), Check.NONE);
    }

    private static void behind() {
        check.due("nobody", new RankWheels().behind(5), 0);
        check.due("one alone", Check.told("m 9 1;").behind(99), 0);
        RankWheels x = Check.told("m 9 1; m 9 1; p 1;");
        check.due("behind(0)", x.behind(0), 1);
        check.due("behind(59)", x.behind(59), 60);
        check.due("behind(60)", x.behind(60), Check.NONE);
        check.due("behind(-1)", x.behind(-1), Check.BAD);
        check.due("behind(100)", x.behind(100), Check.BAD);
        check.due("nobody: BAD all the same", new RankWheels().behind(100), Check.BAD);
        // PLACES that want nothing don't count: PACE 1 of three is 0 in the middle
        RankWheels y = Check.told("m 9 1; m 9 1; m 9 1; p 1; e 0; w 0;");
        y.slips(1, 99);
        check.due("wants nothing", y.behind(3), 4);
        // he without loses an inch a pace: 60 of them by then
        RankWheels z = Check.told("m 9 1; m 9 1; p 10; e 0; w 0;");
        check.due("60 inches lost: 7 times 10", z.behind(0), 7);
        check.due("60 inches lost: 7 times 10", z.behind(9), 7);
        check.due("60 inches lost: 8 times 10", z.behind(10), 8);
        // NOW is looked at, too: 99 behind, but soon no more
        RankWheels now = Check.told("m 60 1; m 60 1; p 10; e 0; w 10;");
        now.slips(1, 99);
        check.due("by NOW", now.behind(0), 10);
        check.due("nothing is done", now.place(1, 1), -99);
        // 0 20 -2, then 20 19 20, and so it stays: all are ahead of the line by more than 18
        RankWheels ahead = Check.told("m 60 1; m 60 1; m 60 1; p 2; e 10; w 10;");
        ahead.slips(1, 20);
        ahead.wheels();
        ahead.wheels();
        ahead.minds(0, 0);
        check.due("19 ahead", ahead.place(1, 1), 19);
        check.due("behind(18)", ahead.behind(18), 0);
        check.due("behind(19)", ahead.behind(19), 1);
    }

    private static void post() {
        RankWheels x = Check.told("m 60 1; m 60 1; m 60 1; p 10; e 0; w 0;");
        x.slips(0, 1);
        x.minds(0, 0);
        check.due("post(2, 1)", x.post(2, 1), 10);
        check.due("post(2, 20)", x.post(2, 20), 200);
        check.due("post(1, 3)", x.post(1, 3), 15);
        check.due("post(0, 20)", x.post(0, 20), 1);
        check.due("nothing is done", x.place(2, 1), 0);
        check.due("no PACES", x.now(0), 0);
        x.minds(5, 2);
        // behind a pace -1 -5 0, behind two -1 -10 -1: he without feels that the post holds one
        check.due("others go on", x.post(1, 2), 9);
        check.due("post(-1, 1)", x.post(-1, 1), Check.BAD);
        check.due("post(3, 1)", x.post(3, 1), Check.BAD);
        check.due("post(0, 0)", x.post(0, 0), Check.BAD);
        check.due("post(0, 21)", x.post(0, 21), Check.BAD);
        check.due("nobody", new RankWheels().post(0, 1), Check.BAD);
        check.due("one alone", Check.told("m 1 1;").post(0, 1), 0);
        // 20 times 60 are lost, but INCHES end at -999
        RankWheels far = Check.told("m 60 1; m 60 1; p 60; e 0; w 0;");
        check.due("-999 at least", far.post(1, 20), 999);
    }

    private static void fraction(RankWheels x, int tenths, int k, int upper, int lower) {
        check.due("odds(" + tenths + ", " + k + ", 0)", x.odds(tenths, k, 0), upper);
        check.due("odds(" + tenths + ", " + k + ", 1)", x.odds(tenths, k, 1), lower);
    }

    private static void odds() {
        RankWheels nobody = new RankWheels();
        fraction(nobody, 7, 0, 1, 1);
        fraction(nobody, 10, 7, 1, 1);
        RankWheels three = Check.told("m 1 1; m 1 1; m 1 1;");
        fraction(three, 0, 0, 1, 1);
        fraction(three, 10, 2, 0, 1);
        fraction(three, 10, 3, 1, 1);
        fraction(three, 5, 0, 1, 8);
        fraction(three, 5, 1, 1, 2);
        fraction(three, 5, 2, 7, 8);
        fraction(three, 5, 7, 1, 1);
        fraction(three, 3, 0, 343, 1000);
        fraction(three, 3, 1, 98, 125);
        RankWheels seven = Check.told("m 1 1; m 1 1; m 1 1; m 1 1; m 1 1; m 1 1; m 1 1;");
        fraction(seven, 1, 0, 4782969, 10000000);
        fraction(seven, 9, 6, 5217031, 10000000);
        fraction(seven, 5, 3, 1, 2);
        fraction(seven, 3, 7, 1, 1);
        check.due("odds(-1, 0, 0)", seven.odds(-1, 0, 0), Check.BAD);
        check.due("odds(11, 0, 0)", seven.odds(11, 0, 0), Check.BAD);
        check.due("odds(0, -1, 0)", seven.odds(0, -1, 0), Check.BAD);
        check.due("odds(0, 8, 0)", seven.odds(0, 8, 0), Check.BAD);
        check.due("odds(0, 0, -1)", seven.odds(0, 0, -1), Check.BAD);
        check.due("odds(0, 0, 2)", seven.odds(0, 0, 2), Check.BAD);
    }
}
