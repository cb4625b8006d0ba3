/** Promises 1 to 6: a new object, the text, what it tells, men and places. */
public final class RankTest {
    private static final Check check = new Check();

    public static void main(String[] args) {
        newObject();
        typing();
        clearing();
        tellings();
        faults();
        faultChangesNothing();
        readAnew();
        men();
        places();
        check.end("RankTest");
    }

    private static void newObject() {
        RankWheels x = new RankWheels();
        for (int what = 0; what < 4; what++) {
            check.due("new count(" + what + ")", x.count(what), 0);
        }
        int[] now = {0, 30, 5, 2, 0, Check.NONE, 0, 0};
        for (int what = 0; what < now.length; what++) {
            check.due("new now(" + what + ")", x.now(what), now[what]);
        }
        check.due("new man(0, 0)", x.man(0, 0), Check.BAD);
        check.due("new place(0, 0)", x.place(0, 0), Check.BAD);
        check.due("new undo()", x.undo(), Check.STATE);
        check.due("new back(0)", x.back(0), Check.STATE);
        check.due("new back(1)", x.back(1), Check.STATE);
        check.due("new trace()", x.trace(), 0);
    }

    private static void typing() {
        RankWheels x = new RankWheels();
        check.due("type(-1)", x.type(-1), Check.BAD);
        check.due("type(256)", x.type(256), Check.BAD);
        check.due("type(least int)", x.type(Integer.MIN_VALUE), Check.BAD);
        check.due("type(greatest int)", x.type(Integer.MAX_VALUE), Check.BAD);
        check.due("bytes after refusals", x.count(3), 0);
        for (int i = 1; i <= 120; i++) {
            check.due("type " + i, x.type(i % 2 == 0 ? 0 : 255), i);
        }
        check.due("type 121", x.type(32), Check.FULL);
        check.due("type 121, BAD ahead of FULL", x.type(256), Check.BAD);
        check.due("bytes when full", x.count(3), 120);
    }

    private static void clearing() {
        RankWheels x = new RankWheels();
        check.due("clear() of nothing", x.clear(), 0);
        Check.type(x, "m 5");
        check.due("clear()", x.clear(), 3);
        check.due("bytes after clear()", x.count(3), 0);
        check.due("clear() again", x.clear(), 0);
        check.due("type after clear()", x.type('p'), 1);
    }

    private static void telling(String text, int items, int number, int pace, int eye, int elbow) {
        RankWheels x = new RankWheels();
        Check.type(x, text);
        check.due("rank() of '" + text + "'", x.rank(), items);
        check.due("bytes after '" + text + "'", x.count(3), 0);
        check.due("men of '" + text + "'", x.count(0), number);
        check.due("pace of '" + text + "'", x.now(1), pace);
        check.due("eye of '" + text + "'", x.now(2), eye);
        check.due("elbow of '" + text + "'", x.now(3), elbow);
    }

    private static void tellings() {
        telling("", 0, 0, 30, 5, 2);
        telling("   ", 0, 0, 30, 5, 2);
        telling(" ".repeat(120), 0, 0, 30, 5, 2);
        telling("m 60 98" + " ".repeat(112) + ";", 1, 1, 30, 5, 2);
        telling("m1 1;", 1, 1, 30, 5, 2);
        telling("m60 99;", 1, 1, 30, 5, 2);
        telling("  m  60   99  ;  ", 1, 1, 30, 5, 2);
        telling("p1;", 1, 0, 1, 5, 2);
        telling("p60;", 1, 0, 60, 5, 2);
        telling("e0;w10;", 2, 0, 30, 0, 10);
        telling("w0;m 9 9;e10;m 8 8;p 7;", 5, 2, 7, 10, 0);
        telling("m1 1;m1 1;m1 1;m1 1;m1 1;m1 1;m1 1;w1;e2;p3;", 10, 7, 3, 2, 1);
    }

    private static void fault(String text, int place) {
        RankWheels x = new RankWheels();
        Check.type(x, text);
        check.due("rank() of '" + text + "'", x.rank(), -2000 - place);
        check.due("bytes kept of '" + text + "'", x.clear(), text.length());
        check.due("no men of '" + text + "'", x.count(0), 0);
    }

    private static void faults() {
        // letters that begin no item, and other tokens that can't stand first
        fault("x 1;", 0);
        fault("  mm 1 1;", 2);
        fault("pe 1;", 0);
        fault("5;", 0);
        fault(";", 0);
        fault("m 1 1;;", 6);
        fault("m 1 1; 7", 7);
        // numbers beyond what they may be
        fault("m 0 1;", 2);
        fault("m 61 1;", 2);
        fault("m 60 0;", 5);
        fault("m 60 100;", 5);
        fault("m 1 01;", 4);
        fault("m 00 1;", 2);
        fault("m 1 99999999999999999999;", 4);
        fault("m 1 4294967297;", 4);
        fault("p 0;", 2);
        fault("p 61;", 2);
        fault("e 11;", 2);
        fault("w 11;", 2);
        fault("e 010;", 2);
        fault("p 100;", 2);
        // again, or once too often
        fault("p 1;p 1;", 4);
        fault("e 1; e 1;", 5);
        fault("w1;m1 1;w1;", 8);
        fault("m1 1;m1 1;m1 1;m1 1;m1 1;m1 1;m1 1; m1 1;", 36);
        // another kind of token than the one due
        fault("m m", 2);
        fault("m ;", 2);
        fault("m 1;", 3);
        fault("m 1 m", 4);
        fault("m 1 1 1;", 6);
        fault("m 1 1 m", 6);
        fault("p;", 1);
        fault("p p", 2);
        fault("p 1 1;", 4);
        fault("e 1 p", 4);
        // bytes that begin no token
        fault("M 1 1;", 0);
        fault("m1 1;\t", 5);
        fault("m1 1,", 4);
        fault("m -1 1;", 2);
        fault("m" + (char) 0, 1);
        fault("m" + (char) 255, 1);
        fault("`", 0);
        fault("{", 0);
        fault("p1/", 2);
        fault("p1:", 2);
        // too early an end; a fault ahead of it comes first
        fault("m", 1);
        fault("m  ", 3);
        fault("m 1", 3);
        fault("m 1 1", 5);
        fault("m 1 1; p", 8);
        fault("m 1 1; p 30 ", 12);
        fault("e", 1);
        fault("m 61", 2);
        fault("m 1 1; p 61", 9);
        fault("q", 0);
        // texts as long as may be
        fault("m" + "1".repeat(119), 1);
        fault("m".repeat(120), 0);
        fault(" ".repeat(119) + "m", 120);
        fault("m 1" + " ".repeat(117), 120);
        fault("m 1" + " ".repeat(116) + "1", 120);
        // the first fault, though a later byte begins no token
        fault("m 0 1; #", 2);
        fault("m 1 1; # m 0", 7);
    }

    private static void faultChangesNothing() {
        RankWheels x = Check.told("m 20 5; m 30 6; p 12; e 3; w 4;");
        x.slips(1, 7);
        x.keep(1);
        x.saw(0, 3, 4);
        Check.type(x, "m 9 9; p 9; e 9; w 9; m 9 9; m");
        check.due("fault", x.rank(), -2000 - 30);
        check.due("bytes", x.count(3), 30);
        check.due("men", x.count(0), 2);
        check.due("seen", x.count(1), 1);
        check.due("undone", x.count(2), 1);
        check.due("leg", x.man(0, 0), 20);
        check.due("height", x.man(1, 1), 6);
        check.due("inches", x.place(1, 1), -7);
        check.due("pace", x.now(1), 12);
        check.due("eye", x.now(2), 3);
        check.due("elbow", x.now(3), 4);
        check.due("image", x.back(1), 0);
        Check.type(x, " 1 1;");
        check.due("the text goes on", x.rank(), 6);
        check.due("men then", x.count(0), 3);
    }

    private static void readAnew() {
        RankWheels x = Check.told("m 20 5; m 30 6; m 40 7; p 12; e 3; w 4;");
        x.wheels();
        x.slips(1, 7);
        x.hops(2);
        x.swaps(0, 2);
        x.saw(0, 3, 4);
        x.keep(0);
        x.keep(1);
        x.rate(0, 0);
        Check.type(x, "m 20 5; m 30 6; m 40 7;");
        check.due("rank() anew", x.rank(), 3);
        int[] now = {0, 30, 5, 2, 0, 0, 0, 3};
        for (int what = 0; what < now.length; what++) {
            check.due("anew now(" + what + ")", x.now(what), now[what]);
        }
        int[] count = {3, 0, 0, 0};
        for (int what = 0; what < count.length; what++) {
            check.due("anew count(" + what + ")", x.count(what), count[what]);
        }
        for (int k = 0; k < 3; k++) {
            check.due("anew place(" + k + ", 0)", x.place(k, 0), k);
        }
        check.due("anew back(0)", x.back(0), Check.STATE);
        check.due("anew back(1)", x.back(1), Check.STATE);
        check.due("anew undo()", x.undo(), Check.STATE);
        check.due("the trace stays", x.trace(), 1);
        check.due("rank() of the empty text", x.rank(), 0);
        check.due("no men", x.count(0), 0);
    }

    private static void men() {
        RankWheels x = Check.told("m 20 5; m 60 99; m 1 1;");
        int[][] due = {{20, 5, 0}, {60, 99, 1}, {1, 1, 2}};
        for (int m = 0; m < 3; m++) {
            for (int what = 0; what < 3; what++) {
                check.due("man(" + m + ", " + what + ")", x.man(m, what), due[m][what]);
            }
        }
        x.swaps(0, 2);
        check.due("man(0, 2) swapped", x.man(0, 2), 2);
        check.due("man(1, 2) swapped", x.man(1, 2), 1);
        check.due("man(2, 2) swapped", x.man(2, 2), 0);
        check.due("man(0, 0) swapped", x.man(0, 0), 20);
        check.due("man(-1, 0)", x.man(-1, 0), Check.BAD);
        check.due("man(3, 0)", x.man(3, 0), Check.BAD);
        check.due("man(7, 0)", x.man(7, 0), Check.BAD);
        check.due("man(0, -1)", x.man(0, -1), Check.BAD);
        check.due("man(0, 3)", x.man(0, 3), Check.BAD);
    }

    private static void places() {
        RankWheels x = Check.told("m 60 1; m 60 1; m 60 1; m 60 1; p 50;");
        int[] wants = {0, 16, 33, 50};
        for (int p = 0; p < 4; p++) {
            check.due("place(" + p + ", 0)", x.place(p, 0), p);
            check.due("place(" + p + ", 1)", x.place(p, 1), 0);
            check.due("place(" + p + ", 2)", x.place(p, 2), 0);
            check.due("place(" + p + ", 3)", x.place(p, 3), wants[p]);
        }
        x.slips(2, 9);
        x.hops(2);
        x.swaps(2, 3);
        check.due("place(2, 0) swapped", x.place(2, 0), 3);
        check.due("place(3, 0) swapped", x.place(3, 0), 2);
        check.due("place(2, 1): inches stay", x.place(2, 1), -9);
        check.due("place(3, 1): inches stay", x.place(3, 1), 0);
        check.due("place(2, 2): feet stay", x.place(2, 2), 1);
        check.due("place(3, 2): feet stay", x.place(3, 2), 0);
        check.due("place(-1, 0)", x.place(-1, 0), Check.BAD);
        check.due("place(4, 0)", x.place(4, 0), Check.BAD);
        check.due("place(7, 1)", x.place(7, 1), Check.BAD);
        check.due("place(0, -1)", x.place(0, -1), Check.BAD);
        check.due("place(0, 4)", x.place(0, 4), Check.BAD);
        check.due("one alone wants 0", Check.told("m 9 9; p 60;").place(0, 3), 0);
    }
}
