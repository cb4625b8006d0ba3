/** Promises 1 to 6, each where the document names an end of something: empty, full, too small, too large, refused. */
public final class RankEdgesTest {
    private static final Check check = new Check();
    private static final Edges edges = new Edges(check, Check.BAD);
    private static final String SEVEN_OF_ONE = "m1 1;m1 1;m1 1;m1 1;m1 1;m1 1;m1 1;";

    public static void main(String[] args) {
        check.promise(1);
        newObject();
        newObjectRefuses();
        check.promise(2);
        typeEnds();
        typeFull();
        check.promise(3);
        clearEnds();
        check.promise(4);
        menNoneToSeven();
        numbersAtTheirEnds();
        numbersBeyondTheirEnds();
        numbersOddlyWritten();
        onceEach();
        everyByteFirst();
        everyByteBehindAnItem();
        everyByteBehindANumber();
        everyByteBehindALetter();
        everyByteBehindAMan();
        everyByteForANumber("m ", " 9;", 1);
        everyByteForANumber("m 9 ", ";", 1);
        everyByteForANumber("p ", ";", 1);
        everyByteForANumber("e ", ";", 0);
        everyByteForANumber("w ", ";", 0);
        endsTooEarly();
        firstFaultCounts();
        longestTexts();
        faultsChangeNothing();
        readAnew();
        check.promise(5);
        manEnds();
        check.promise(6);
        placeEnds();
        wantsAtTheEnds();
        check.end("RankEdgesTest");
    }

    // ---- promise 1

    private static void newObject() {
        RankWheels x = new RankWheels();
        int[] now = {0, 30, 5, 2, 0, Check.NONE, 0, 0};
        for (int what = 0; what < now.length; what++) {
            check.due("now(" + what + ")", x.now(what), now[what]);
        }
        for (int what = 0; what < 4; what++) {
            check.due("count(" + what + ")", x.count(what), 0);
        }
        check.due("trace()", x.trace(), 0);
        check.due("dressed()", x.dressed(), 0);
        check.due("looks(0, -1)", x.looks(0, -1), 0);
        check.due("looks(60, -1)", x.looks(60, -1), 0);
        check.due("mix(0)", x.mix(0), 0);
        check.due("mix(1)", x.mix(1), 0);
        check.due("fastest()", x.fastest(), 60);
        check.due("order(-1)", x.order(-1), 0);
        check.due("order(-2)", x.order(-2), 0);
        check.due("inStep()", x.inStep(), 0);
        check.due("behind(0)", x.behind(0), 0);
        check.due("behind(99)", x.behind(99), 0);
        check.due("odds(10, 0, 0)", x.odds(10, 0, 0), 1);
        check.due("odds(10, 0, 1)", x.odds(10, 0, 1), 1);
        check.due("whose(0)", x.whose(0), 0);
        check.due("whose(1)", x.whose(1), Check.NONE);
        check.due("whose(2)", x.whose(2), 0);
        check.due("clear()", x.clear(), 0);
        check.due("forget()", x.forget(), 0);
        check.due("minds(5, 2)", x.minds(5, 2), 57);
        check.due("speeds(30)", x.speeds(30), 30);
        check.due("wheels()", x.wheels(), 0);
        check.due("keep(0)", x.keep(0), 1);
        check.due("undo()", x.undo(), 2);
        check.due("back(0)", x.back(0), 1);
        check.due("rank()", x.rank(), 0);
    }

    private static void newObjectRefuses() {
        edges.refused("man(0, 0)", RankWheels::new, x -> x.man(0, 0));
        edges.refused("place(0, 0)", RankWheels::new, x -> x.place(0, 0));
        edges.refused("slips(0, 1)", RankWheels::new, x -> x.slips(0, 1));
        edges.refused("hops(0)", RankWheels::new, x -> x.hops(0));
        edges.refused("swaps(0, 1)", RankWheels::new, x -> x.swaps(0, 1));
        edges.refused("looks(0, 0)", RankWheels::new, x -> x.looks(0, 0));
        edges.refused("order(0)", RankWheels::new, x -> x.order(0));
        edges.refused("post(0, 1)", RankWheels::new, x -> x.post(0, 1));
        edges.refused("saw(0, 0, 0)", RankWheels::new, x -> x.saw(0, 0, 0));
        edges.changesNothing("rate(0, 0)", RankWheels::new, x -> x.rate(0, 0), Check.NO);
        edges.changesNothing("undo()", RankWheels::new, RankWheels::undo, Check.STATE);
        edges.changesNothing("back(0)", RankWheels::new, x -> x.back(0), Check.STATE);
        edges.changesNothing("back(1)", RankWheels::new, x -> x.back(1), Check.STATE);
    }

    // ---- promises 2, 3

    private static void typeEnds() {
        RankWheels x = new RankWheels();
        check.due("type(0)", x.type(0), 1);
        check.due("type(255)", x.type(255), 2);
        edges.beyond("type(n)", RankWheels::type, 0, 255);
        // a number that has the byte of an m or a ; at its end is none all the same
        edges.refused("type(256 + m)", Edges::busyThree, y -> y.type(256 + 'm'));
        edges.refused("type(; - 256)", Edges::busyThree, y -> y.type(';' - 256));
        edges.refused("type(65536 + ;)", Edges::busyThree, y -> y.type(65536 + ';'));
    }

    /** The text ends with its 120th byte, so one that were lost, or put where it has no room, would be told. */
    private static RankWheels fullOfText() {
        RankWheels x = Edges.busyThree();
        x.clear();
        Check.type(x, "m 9 8;" + " ".repeat(110) + "p 7;");
        return x;
    }

    private static void typeFull() {
        RankWheels x = new RankWheels();
        for (int i = 1; i <= 120; i++) {
            check.due("type() of byte " + i, x.type(' '), i);
        }
        check.due("type() of byte 121", x.type(' '), Check.FULL);
        check.due("count(3)", x.count(3), 120);
        check.due("full, the last byte counts", fullOfText().rank(), 2);
        edges.changesNothing("full, type(;)", RankEdgesTest::fullOfText, y -> y.type(';'), Check.FULL);
        edges.changesNothing("full, type(0)", RankEdgesTest::fullOfText, y -> y.type(0), Check.FULL);
        edges.changesNothing("full, type(255)", RankEdgesTest::fullOfText, y -> y.type(255), Check.FULL);
        edges.refused("full, type(-1): BAD first", RankEdgesTest::fullOfText, y -> y.type(-1));
        edges.refused("full, type(256): BAD first", RankEdgesTest::fullOfText, y -> y.type(256));
        check.due("clear()", x.clear(), 120);
        check.due("room behind clear()", x.type(' '), 1);
        RankWheels read = fullOfText();
        check.due("rank()", read.rank(), 2);
        check.due("room behind rank()", read.type(' '), 1);
    }

    private static void clearEnds() {
        RankWheels x = new RankWheels();
        check.due("clear() of nothing", x.clear(), 0);
        x.type('m');
        check.due("clear() of one", x.clear(), 1);
        check.due("clear() again", x.clear(), 0);
        check.due("count(3)", x.count(3), 0);
        check.due("clear() when full", fullOfText().clear(), 120);
        RankWheels cleared = fullOfText();
        cleared.clear();
        RankWheels other = Edges.busyThree();
        other.clear();
        check.holds("clear() takes all of the text, and nothing else", Tale.of(cleared).equals(Tale.of(other)));
        RankWheels whole = Edges.busyThree();
        whole.clear();
        Check.type(whole, "m 9 8;p 7");
        check.holds("but the text nothing is lost", Tale.of(whole).equals(Tale.of(Edges.busyThree())));
    }

    // ---- promise 4

    private static void tells(String text, int items) {
        RankWheels x = Check.told("m 3 3;");
        Check.type(x, text);
        check.due("rank() of '" + text + "'", x.rank(), items);
        check.due("bytes behind '" + text + "'", x.count(3), 0);
    }

    private static void fault(String text, int at) {
        RankWheels x = Check.told("m 3 3;");
        Check.type(x, text);
        check.due("rank() of '" + text + "'", x.rank(), -2000 - at);
        check.due("bytes behind '" + text + "'", x.count(3), text.length());
        check.due("MEN behind '" + text + "'", x.count(0), 1);
    }

    private static void menNoneToSeven() {
        String text = "";
        for (int number = 0; number <= 7; number++) {
            check.due("MEN of '" + text + "'", Check.told(text).count(0), number);
            tells(text, number);
            tells(text + "p1;e1;w1;", number + 3);
            text += "m1 1;";
        }
        fault(text, 35);
        fault(SEVEN_OF_ONE + "m", 35);
        fault(SEVEN_OF_ONE + " m 1 1;", 36);
        fault(SEVEN_OF_ONE + "p1;m1 1;", 38);
        fault(SEVEN_OF_ONE + "m 61 1;", 35);
    }

    private static void numbersAtTheirEnds() {
        RankWheels x = Check.told("m 1 1; m 60 99; p 1; e 0; w 0;");
        int[][] men = {{1, 1, 0}, {60, 99, 1}};
        for (int m = 0; m < 2; m++) {
            for (int what = 0; what < 3; what++) {
                check.due("least and most: man(" + m + ", " + what + ")", x.man(m, what), men[m][what]);
            }
        }
        check.due("least PACE", x.now(1), 1);
        check.due("least EYE", x.now(2), 0);
        check.due("least ELBOW", x.now(3), 0);
        RankWheels y = Check.told("p 60; e 10; w 10;");
        check.due("most PACE", y.now(1), 60);
        check.due("most EYE", y.now(2), 10);
        check.due("most ELBOW", y.now(3), 10);
        RankWheels untold = Check.told("m 1 1;");
        check.due("PACE untold", untold.now(1), 30);
        check.due("EYE untold", untold.now(2), 5);
        check.due("ELBOW untold", untold.now(3), 2);
    }

    private static void numbersBeyondTheirEnds() {
        fault("m 0 1;", 2);
        fault("m 61 1;", 2);
        fault("m 99 1;", 2);
        fault("m 100 1;", 2);
        fault("m 1 0;", 4);
        fault("m 1 100;", 4);
        fault("m 1 101;", 4);
        fault("m 1 999;", 4);
        fault("p 0;", 2);
        fault("p 61;", 2);
        fault("p 99;", 2);
        fault("p 100;", 2);
        fault("e 11;", 2);
        fault("e 99;", 2);
        fault("e 100;", 2);
        fault("w 11;", 2);
        fault("w 99;", 2);
        fault("w 100;", 2);
    }

    private static void numbersOddlyWritten() {
        tells("e0;", 1);
        tells("w0;", 1);
        String[] noughtAhead = {"00", "01", "05", "09", "010", "000", "0000000000005"};
        // each would be 1 or 5, if it went round at 8, 16, 32 or 64 bits, or at 100
        String[] wrapping = {"257", "65537", "4294967297", "18446744073709551617", "101", "105", "1000001"};
        for (String[] odd : new String[][] {noughtAhead, wrapping}) {
            for (String number : odd) {
                fault("m " + number + " 1;", 2);
                fault("m 1 " + number + ";", 4);
                fault("p " + number + ";", 2);
                fault("e " + number + ";", 2);
                fault("w " + number + ";", 2);
                fault("m 1 1; " + number, 7);
            }
        }
        fault("p -1;", 2);
        fault("p +1;", 2);
        fault("p 1.0;", 3);
    }

    private static void onceEach() {
        for (String letter : new String[] {"p", "e", "w"}) {
            tells(letter + "1;", 1);
            fault(letter + "1;" + letter + "1;", 3);
            fault(letter + "1;" + letter + "2;", 3);
            fault(letter + "1; m1 1; " + letter + " 1;", 10);
            fault(letter + "1;" + letter, 3);
            // by another rank it may be told again
            RankWheels x = Check.told(letter + "3;");
            Check.type(x, letter + "4;");
            check.due(letter + " told anew", x.rank(), 1);
        }
        tells("e0;w0;", 2);
        fault("e0;e0;", 3);
        fault("w0;w0;", 3);
        // as told at first, but told all the same
        fault("p30;p30;", 4);
        fault("e5;e5;", 3);
        fault("w2;w2;", 3);
    }

    private static boolean beginsItem(int c) {
        return c == 'm' || c == 'p' || c == 'e' || c == 'w';
    }

    private static void everyByteFirst() {
        for (int c = 0; c < 256; c++) {
            String text = String.valueOf((char) c);
            if (c == ' ') {
                tells(text, 0);
            } else {
                fault(text, beginsItem(c) ? 1 : 0);
            }
        }
    }

    private static void everyByteBehindAnItem() {
        for (int c = 0; c < 256; c++) {
            String text = "m1 1;" + (char) c;
            if (c == ' ') {
                tells(text, 1);
            } else {
                fault(text, beginsItem(c) ? 6 : 5);
            }
        }
    }

    private static void everyByteBehindANumber() {
        for (int c = 0; c < 256; c++) {
            String text = "m1 1" + (char) c;
            if (c == ';') {
                tells(text, 1);
            } else {
                // a digit makes it a number of two, a blank ends it: then only the ; is missing
                fault(text, c == ' ' || c >= '0' && c <= '9' ? 5 : 4);
            }
        }
    }

    private static void everyByteBehindALetter() {
        for (int c = 0; c < 256; c++) {
            String text = "p" + (char) c + ";";
            if (c >= '1' && c <= '9') {
                tells(text, 1);
            } else if (c == ' ') {
                fault(text, 2);
            } else {
                fault(text, c >= 'a' && c <= 'z' ? 0 : 1);
            }
        }
    }

    private static void everyByteBehindAMan() {
        for (int c = 0; c < 256; c++) {
            String text = "m" + (char) c + " 9;";
            if (c >= '1' && c <= '9') {
                tells(text, 1);
            } else if (c == ' ') {
                fault(text, 4);
            } else {
                fault(text, c >= 'a' && c <= 'z' ? 0 : 1);
            }
        }
    }

    /** A letter stands for no NUMBER, whatever its byte is: a, b and c are 97, 98 and 99. */
    private static void everyByteForANumber(String ahead, String behind, int least) {
        for (int c = 0; c < 256; c++) {
            String text = ahead + (char) c + behind;
            if (c >= '0' + least && c <= '9') {
                tells(text, 1);
            } else {
                // without it the item ends a number too early, at its ;
                fault(text, c == ' ' ? text.length() - 1 : ahead.length());
            }
        }
    }

    private static void endsTooEarly() {
        String[] begun = {"m", "m 1", "m 1 1", "p", "p 1", "e", "e 0", "w", "w 10"};
        for (String text : begun) {
            fault(text, text.length());
            fault(text + " ", text.length() + 1);
            fault(text + "     ", text.length() + 5);
            fault("   " + text, text.length() + 3);
            fault("m1 1;" + text, text.length() + 5);
        }
        tells("m 1 1;", 1);
        tells("m 1 1;     ", 1);
        tells("m 1 1     ;", 1);
        tells("", 0);
        tells(" ", 0);
    }

    private static void firstFaultCounts() {
        fault("m 0 0", 2);
        fault("m 61", 2);
        fault("m 1 1; p 61 #", 9);
        fault("# m 0 0", 0);
        fault("m # 0", 2);
        fault("q # 100", 0);
        fault("p 1; p 61;", 5);
        fault("m m m", 2);
        fault("m 1 1 100", 6);
        fault("p 100 100", 2);
        fault("mp 1 1;", 0);
        fault("mm 1 1;", 0);
        fault("m 1 1; pp 1;", 7);
        fault("man 1 1;", 0);
        fault("1 m;", 0);
        fault(";m 1 1;", 0);
        fault("m 1 1;;", 6);
        fault("m;1 1;", 1);
        fault("m 1;1;", 3);
    }

    private static void longestTexts() {
        tells(" ".repeat(120), 0);
        tells("m 1 1" + " ".repeat(114) + ";", 1);
        tells(" ".repeat(114) + "m 1 1;", 1);
        fault("m 1 1" + " ".repeat(115), 120);
        fault(" ".repeat(119) + "m", 120);
        fault(" ".repeat(119) + "q", 119);
        fault(" ".repeat(119) + ";", 119);
        fault("m" + "1".repeat(119), 1);
        fault("m" + "0".repeat(119), 1);
        fault("z".repeat(120), 0);
        fault(";".repeat(120), 0);
        fault("m 60 99;".repeat(7) + " ".repeat(63) + "w", 120);
    }

    private static RankWheels withText(String text) {
        RankWheels x = Edges.busyThree();
        x.clear();
        Check.type(x, text);
        return x;
    }

    private static void faultChangesNothing(String text, int at) {
        edges.changesNothing("rank() of '" + text + "'", () -> withText(text), RankWheels::rank, -2000 - at);
    }

    private static void faultsChangeNothing() {
        faultChangesNothing("m 9 8;p 7", 9);
        faultChangesNothing("m 9 8;p 7;e 1;w 1;q", 18);
        faultChangesNothing("m 9 8;p 7;e 1;w 1;m 61 1;", 20);
        faultChangesNothing("m 9 8;p 7;e 1;w 1;m 60 100", 23);
        faultChangesNothing("p 7;e 1;w 1;w 2;", 12);
        faultChangesNothing(SEVEN_OF_ONE + "m1 1;", 35);
        faultChangesNothing("m", 1);
        faultChangesNothing("#", 0);
        // the text goes on behind its fault, where it had only ended too early
        RankWheels x = withText("m 9 8;p 7");
        check.due("rank() too early", x.rank(), -2009);
        check.due("type(;)", x.type(';'), 10);
        check.due("rank() then", x.rank(), 2);
        check.due("MEN", x.count(0), 1);
        check.due("PACE", x.now(1), 7);
    }

    /** But for the trace, an object that is read anew is as a new one of which the same is told. */
    private static void readAnew() {
        String[] texts = {"", "m 9 8;", "m 9 8;m 7 6;p 5;", Edges.THREE + "e 4;w 3;", SEVEN_OF_ONE + "p 60;e 10;w 0;"};
        for (String text : texts) {
            RankWheels anew = Edges.busySeven();
            anew.clear();
            Check.type(anew, text);
            anew.rank();
            RankWheels made = Check.told(Edges.SEVEN);
            made.rate(5, 1);
            Check.type(made, text);
            made.rank();
            check.due("nothing SEEN", anew.count(1), 0);
            check.due("nothing to be UNDONE", anew.count(2), 0);
            check.due("an empty text", anew.count(3), 0);
            check.due("the trace stays", anew.trace(), 100001);
            check.holds("read anew: '" + text + "'", Tale.of(anew).equals(Tale.of(made)));
        }
        RankWheels x = Edges.busyThree();
        check.due("IMAGE 1 was kept", x.back(1), 1);
        x.clear();
        check.due("rank() of nothing", x.rank(), 0);
        check.due("back(0)", x.back(0), Check.STATE);
        check.due("back(1)", x.back(1), Check.STATE);
        check.due("undo()", x.undo(), Check.STATE);
        check.due("nobody", x.man(0, 0), Check.BAD);
        check.due("PACE as at first", x.now(1), 30);
        check.due("EYE as at first", x.now(2), 5);
        check.due("ELBOW as at first", x.now(3), 2);
    }

    // ---- promises 5, 6

    private static void manEnds() {
        RankWheels three = Check.told(Edges.THREE);
        RankWheels seven = Check.told(Edges.SEVEN);
        int[][] first = {{20, 5, 0}, {20, 5, 0}};
        int[][] last = {{40, 7, 2}, {15, 3, 6}};
        for (int what = 0; what < 3; what++) {
            check.due("three: man(0, " + what + ")", three.man(0, what), first[0][what]);
            check.due("three: man(2, " + what + ")", three.man(2, what), last[0][what]);
            check.due("seven: man(0, " + what + ")", seven.man(0, what), first[1][what]);
            check.due("seven: man(6, " + what + ")", seven.man(6, what), last[1][what]);
        }
        for (int what = 0; what < 3; what++) {
            int asked = what;
            edges.beyondMen("man(n, " + what + ")", (x, n) -> x.man(n, asked), 0);
        }
        edges.beyond("man(0, n)", (x, n) -> x.man(0, n), 0, 2);
        edges.beyond("man(2, n)", (x, n) -> x.man(2, n), 0, 2);
        seven.swaps(0, 6);
        check.due("the first is without", seven.man(0, 2), 6);
        check.due("the last is within", seven.man(6, 2), 0);
        Check.type(seven, "m 9 9;");
        seven.rank();
        check.due("a MAN that is told no more", seven.man(1, 0), Check.BAD);
        check.due("the only one", seven.man(0, 2), 0);
    }

    private static void placeEnds() {
        RankWheels seven = Check.told(Edges.SEVEN);
        int[] last = {6, 0, 0, 30};
        for (int what = 0; what < 4; what++) {
            int asked = what;
            check.due("place(0, " + what + ")", seven.place(0, what), 0);
            check.due("place(6, " + what + ")", seven.place(6, what), last[what]);
            edges.beyondMen("place(n, " + what + ")", (x, n) -> x.place(n, asked), 0);
        }
        edges.beyond("place(0, n)", (x, n) -> x.place(0, n), 0, 3);
        edges.beyond("place(2, n)", (x, n) -> x.place(2, n), 0, 3);
    }

    private static void wants(String text, int... due) {
        RankWheels x = Check.told(text);
        for (int p = 0; p < due.length; p++) {
            check.due("place(" + p + ", 3) of " + text, x.place(p, 3), due[p]);
        }
    }

    private static void wantsAtTheEnds() {
        wants("m 1 1; p 60;", 0);
        wants("m 1 1; m 1 1; p 1;", 0, 1);
        wants("m 1 1; m 1 1; p 60;", 0, 60);
        wants("m 1 1; m 1 1; m 1 1; p 1;", 0, 0, 1);
        wants("m 1 1; m 1 1; m 1 1; p 59;", 0, 29, 59);
        wants(SEVEN_OF_ONE + "p 1;", 0, 0, 0, 0, 0, 0, 1);
        wants(SEVEN_OF_ONE + "p 5;", 0, 0, 1, 2, 3, 4, 5);
        wants(SEVEN_OF_ONE + "p 59;", 0, 9, 19, 29, 39, 49, 59);
        wants(SEVEN_OF_ONE + "p 60;", 0, 10, 20, 30, 40, 50, 60);
    }
}
