/** Promises 7 to 14: what is done, and undone; all answers worked out by hand. */
public final class DoneTest {
    private static final Check check = new Check();
    private static final String THREE = "m 60 1; m 60 2; m 60 3;";
    private static final int[] OUTSIDE = {-1, 3, 7, Integer.MIN_VALUE, Integer.MAX_VALUE};

    public static void main(String[] args) {
        wheeling();
        cutTowardsNought();
        legsAndNought();
        inchesAtTheEnds();
        feet();
        sevenMen();
        pacesAtMost();
        nobodyAndOne();
        slipping();
        hopping();
        swapping();
        minding();
        speeding();
        undoing();
        now();
        check.end("DoneTest");
    }

    private static void inches(String when, RankWheels x, int... due) {
        for (int p = 0; p < due.length; p++) {
            check.due(when + ": inches of " + p, x.place(p, 1), due[p]);
        }
    }

    private static void wheeling() {
        RankWheels x = Check.told(THREE);
        check.due("in line, wheels()", x.wheels(), 0);
        inches("in line", x, 0, 0, 0);
        x.slips(1, 12);
        // PLACE 1 takes 15 + 6 + 2, PLACE 2 takes 30 - 2, PLACE 0 can't take less than 0
        check.due("slipped, wheels()", x.wheels(), 4);
        inches("slipped", x, 0, -4, -2);
        check.due("PACES", x.now(0), 2);
        // 15 + 1 + 0; 30 - 0: each part is cut by itself
        check.due("again, wheels()", x.wheels(), 3);
        inches("again", x, 0, -3, -2);
    }

    private static void cutTowardsNought() {
        RankWheels x = Check.told("m 60 1; m 60 2; m 60 3; e 5; w 5;");
        x.slips(1, 3);
        // PLACE 1: 15 + 1 + 1 of 3 seen and felt; PLACE 2: 30 - 1 of -3 felt
        x.wheels();
        inches("cut", x, 0, -1, -1);
        RankWheels y = Check.told("m 60 1; m 60 2; m 60 3; e 5; w 0;");
        y.slips(2, 3);
        y.wheels();
        inches("cut seen", y, 0, -1, -3);
    }

    private static void legsAndNought() {
        RankWheels x = Check.told("m 1 1; m 10 2; m 20 3; p 40; e 0; w 0;");
        check.due("short legs", x.wheels(), 10);
        inches("short legs", x, 0, -10, -20);
        x.swaps(1, 2);
        x.wheels();
        inches("the other legs", x, 0, -10, -50);
        RankWheels y = Check.told("m 60 1; m 60 2; m 60 3; p 10; e 10; w 10;");
        y.slips(2, 99);
        // PLACE 1 would take 5 - 99: none; PLACE 2 would take 10 + 99: his leg
        y.wheels();
        inches("none at least", y, 0, -5, -49);
    }

    private static void inchesAtTheEnds() {
        RankWheels x = Check.told("m 60 1; m 1 1; p 60; e 0; w 0;");
        for (int i = 0; i < 16; i++) {
            x.wheels();
        }
        check.due("16 times 59 behind", x.place(1, 1), -944);
        check.due("-999 at least", x.wheels(), 999);
        check.due("-999 at least", x.place(1, 1), -999);
        check.due("-999 still", x.wheels(), 999);
    }

    private static void feet() {
        RankWheels x = Check.told("m 9 9; m 9 9; m 9 9; m 9 9; m 9 9;");
        x.hops(1);
        x.hops(2);
        check.due("01100", x.now(6), 6);
        x.wheels();
        // PLACE 0 is unlike his only neighbour; 3 is like 4; 1, 2 are alike
        check.due("11100", x.now(6), 7);
        x.wheels();
        check.due("11100 stays", x.now(6), 7);
        x.hops(4);
        x.wheels();
        // 11101: both 3 and 4 are unlike all beside, by what was ahead of the pace
        check.due("11110", x.now(6), 15);
        x.wheels();
        check.due("11111", x.now(6), 31);
        RankWheels two = Check.told("m 9 9; m 9 9;");
        two.hops(0);
        two.wheels();
        check.due("two unlike each other both change", two.now(6), 2);
    }

    private static void sevenMen() {
        RankWheels x = Check.told("m 60 1;m 60 1;m 60 1;m 60 1;m 60 1;m 60 1;m 30 1;p 60;e 0;w 0;");
        x.hops(6);
        check.due("seven: FEET", x.now(6), 64);
        check.due("seven: wheels()", x.wheels(), 30);
        inches("seven", x, 0, 0, 0, 0, 0, 0, -30);
        check.due("seven: FEET changed", x.now(6), 0);
        check.due("seven: its PLACE", x.now(5), 5);
        check.due("seven: in line", x.now(7), 6);
        check.due("seven: swaps(0, 6)", x.swaps(0, 6), 6);
        check.due("seven: man(6, 2)", x.man(6, 2), 0);
    }

    /** So many calls are more than an object is made for, but the bound is told. */
    private static void pacesAtMost() {
        RankWheels x = Check.told(THREE);
        for (int i = 0; i < 9999; i++) {
            x.wheels();
        }
        check.due("PACES", x.now(0), 9999);
        x.slips(1, 3);
        check.due("it is PACE 9999", x.wheels(), Check.STATE);
        check.due("nothing changes", x.place(1, 1), -3);
        check.due("PACES still", x.now(0), 9999);
        check.due("undo() of the slip", x.undo(), 9);
        check.due("undo() of a PACE", x.undo(), 8);
        check.due("wheels() again", x.wheels(), 0);
    }

    private static void nobodyAndOne() {
        RankWheels x = new RankWheels();
        check.due("nobody wheels()", x.wheels(), 0);
        check.due("nobody's PACES", x.now(0), 1);
        check.due("nobody undo()", x.undo(), 0);
        RankWheels y = Check.told("m 5 5;");
        y.slips(0, 5);
        y.hops(0);
        check.due("one wheels()", y.wheels(), 0);
        check.due("one's inches stay", y.place(0, 1), -5);
        check.due("one's foot stays", y.place(0, 2), 1);
        check.due("one's PACES", y.now(0), 1);
    }

    private static void slipping() {
        RankWheels x = Check.told(THREE);
        check.due("slips(2, 1)", x.slips(2, 1), -1);
        check.due("slips(2, 99)", x.slips(2, 99), -100);
        inches("the others stay", x, 0, 0, -100);
        for (int i = 0; i < 9; i++) {
            x.slips(2, 99);
        }
        check.due("slips to -991", x.place(2, 1), -991);
        check.due("slips to -999", x.slips(2, 8), -999);
        check.due("-999 at least", x.slips(2, 99), -999);
        RankWheels y = Check.told(THREE);
        for (int p : OUTSIDE) {
            check.due("slips(" + p + ", 1)", y.slips(p, 1), Check.BAD);
        }
        check.due("slips(0, 0)", y.slips(0, 0), Check.BAD);
        check.due("slips(0, 100)", y.slips(0, 100), Check.BAD);
        check.due("slips(0, -1)", y.slips(0, -1), Check.BAD);
        check.due("refused, nothing to undo", y.count(2), 0);
    }

    private static void hopping() {
        RankWheels x = Check.told(THREE);
        check.due("hops(1)", x.hops(1), 1);
        check.due("FEET", x.now(6), 2);
        check.due("hops(1) again", x.hops(1), 0);
        for (int p : OUTSIDE) {
            check.due("hops(" + p + ")", x.hops(p), Check.BAD);
        }
        check.due("two to undo", x.count(2), 2);
    }

    private static void swapping() {
        RankWheels x = Check.told(THREE);
        check.due("swaps(0, 2)", x.swaps(0, 2), 2);
        check.due("swaps(1, 0)", x.swaps(1, 0), 2);
        check.due("PLACE 0", x.place(0, 0), 1);
        check.due("PLACE 1", x.place(1, 0), 2);
        check.due("PLACE 2", x.place(2, 0), 0);
        check.due("swaps(1, 1)", x.swaps(1, 1), Check.BAD);
        for (int p : OUTSIDE) {
            check.due("swaps(" + p + ", 0)", x.swaps(p, 0), Check.BAD);
            check.due("swaps(0, " + p + ")", x.swaps(0, p), Check.BAD);
        }
        check.due("two to undo", x.count(2), 2);
    }

    private static void minding() {
        RankWheels x = new RankWheels();
        check.due("minds(0, 10)", x.minds(0, 10), 57);
        check.due("EYE", x.now(2), 0);
        check.due("ELBOW", x.now(3), 10);
        check.due("minds(10, 0)", x.minds(10, 0), 10);
        check.due("minds(10, 0), the same", x.minds(10, 0), 110);
        check.due("minds(-1, 0)", x.minds(-1, 0), Check.BAD);
        check.due("minds(11, 0)", x.minds(11, 0), Check.BAD);
        check.due("minds(0, -1)", x.minds(0, -1), Check.BAD);
        check.due("minds(0, 11)", x.minds(0, 11), Check.BAD);
        check.due("three to undo", x.count(2), 3);
        check.due("EYE stays", x.now(2), 10);
    }

    private static void speeding() {
        RankWheels x = new RankWheels();
        check.due("speeds(1)", x.speeds(1), 30);
        check.due("speeds(60)", x.speeds(60), 1);
        check.due("PACE", x.now(1), 60);
        check.due("speeds(60), the same", x.speeds(60), 60);
        check.due("speeds(0)", x.speeds(0), Check.BAD);
        check.due("speeds(61)", x.speeds(61), Check.BAD);
        check.due("three to undo", x.count(2), 3);
        check.due("PACE stays", x.now(1), 60);
    }

    private static String all(RankWheels x) {
        StringBuilder b = new StringBuilder();
        for (int what = 0; what < 8; what++) {
            b.append(x.now(what)).append(' ');
        }
        for (int p = 0; p < x.count(0); p++) {
            b.append(x.place(p, 0)).append(' ').append(x.place(p, 1)).append(' ');
        }
        return b.toString();
    }

    private static void deed(RankWheels x, int i) {
        switch (i % 6) {
            case 0 -> x.slips(1, 40);
            case 1 -> x.wheels();
            case 2 -> x.hops(2);
            case 3 -> x.swaps(0, 1);
            case 4 -> x.minds(i % 10, 9);
            default -> x.speeds(i);
        }
    }

    private static void undoing() {
        RankWheels x = Check.told(THREE);
        check.due("undo() of nothing", x.undo(), Check.STATE);
        String[] ahead = new String[25];
        for (int i = 0; i < 25; i++) {
            ahead[i] = all(x);
            deed(x, i);
            check.due("may be undone behind " + i, x.count(2), Math.min(10, i + 1));
        }
        for (int i = 24; i >= 15; i--) {
            check.due("undo() of " + i, x.undo(), i - 15);
            check.holds("all is as ahead of " + i, all(x).equals(ahead[i]));
        }
        check.due("older ones are lost", x.undo(), Check.STATE);
        check.holds("nothing changes", all(x).equals(ahead[15]));
        x.slips(0, 1);
        check.due("one again", x.undo(), 0);
        x.saw(0, 0, 5);
        x.hops(0);
        x.saw(0, 0, 6);
        x.undo();
        check.due("what was SEEN stays", x.count(1), 2);
    }

    private static void now() {
        RankWheels x = Check.told("m 60 1; m 60 2; m 60 3; m 60 4; p 20; e 3; w 4;");
        x.slips(1, 7);
        x.slips(3, 7);
        x.hops(0);
        x.hops(3);
        int[] due = {0, 20, 3, 4, 7, 0, 9, 2};
        for (int what = 0; what < 8; what++) {
            check.due("now(" + what + ")", x.now(what), due[what]);
        }
        x.slips(3, 1);
        check.due("BULGE", x.now(4), 8);
        check.due("its PLACE is the one within", x.now(5), 2);
        check.due("now(-1)", x.now(-1), Check.BAD);
        check.due("now(8)", x.now(8), Check.BAD);
        check.due("no BULGE of two in line", Check.told("m 1 1; m 1 1;").now(4), 0);
        check.due("its PLACE", Check.told("m 1 1; m 1 1;").now(5), 0);
        check.due("no BULGE of one", Check.told("m 1 1;").now(4), 0);
        check.due("no PLACE of it", Check.told("m 1 1;").now(5), Check.NONE);
    }
}
