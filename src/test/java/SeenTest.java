/** Promises 24 to 26: what was seen, and whose bulge it was; all answers worked out by hand. */
public final class SeenTest {
    private static final Check check = new Check();
    private static final String THREE = "m 60 1; m 60 2; m 60 3;";

    public static void main(String[] args) {
        seeing();
        forgetting();
        whose();
        slipsAtTheEnd();
        fromNowOn();
        check.end("SeenTest");
    }

    private static void seeing() {
        RankWheels x = Check.told(THREE);
        check.due("saw(-1, 0, 0)", x.saw(-1, 0, 0), Check.BAD);
        check.due("saw(3, 0, 0)", x.saw(3, 0, 0), Check.BAD);
        check.due("saw(0, -1, 0)", x.saw(0, -1, 0), Check.BAD);
        check.due("saw(0, 61, 0)", x.saw(0, 61, 0), Check.BAD);
        check.due("saw(0, 0, -1000)", x.saw(0, 0, -1000), Check.BAD);
        check.due("saw(0, 0, 1000)", x.saw(0, 0, 1000), Check.BAD);
        check.due("nothing SEEN", x.count(1), 0);
        check.due("saw(0, 0, -999)", x.saw(0, 0, -999), 1);
        check.due("saw(2, 60, 999)", x.saw(2, 60, 999), 2);
        for (int i = 3; i <= 6; i++) {
            check.due("saw(1, 1, 1)", x.saw(1, 1, 1), i);
        }
        check.due("a seventh", x.saw(1, 1, 1), Check.FULL);
        check.due("a seventh, BAD first", x.saw(3, 1, 1), Check.BAD);
        check.due("six", x.count(1), 6);
        check.due("no deed", x.count(2), 0);
        check.due("nobody's", new RankWheels().saw(0, 0, 0), Check.BAD);
    }

    private static void forgetting() {
        RankWheels x = Check.told(THREE);
        check.due("forget() nothing", x.forget(), 0);
        x.saw(1, 0, 500);
        x.saw(1, 0, 500);
        check.due("it is nobody's", x.whose(0), 0);
        check.due("forget()", x.forget(), 2);
        check.due("none", x.count(1), 0);
        check.due("anybody's", x.whose(0), 120);
        check.due("saw() anew", x.saw(1, 0, 0), 1);
    }

    private static void whose(RankWheels x, int many, int first, int places) {
        check.due("whose(0)", x.whose(0), many);
        check.due("whose(1)", x.whose(1), first);
        check.due("whose(2)", x.whose(2), places);
    }

    private static void whose() {
        whose(new RankWheels(), 0, Check.NONE, 0);
        RankWheels x = Check.told(THREE);
        whose(x, 120, 1, 7);
        x.saw(0, 0, 0);
        whose(x, 80, 101, 6);
        // PLACE 1 wins 5 and 2 tenths of his own 9, 11 or 12, and loses 5 tenths of 8 or 9 of PLACE 2
        x.saw(1, 1, -4);
        whose(x, 5, 109, 6);
        x.saw(1, 0, -12);
        whose(x, 1, 112, 2);
        x.saw(2, 1, -2);
        whose(x, 1, 112, 2);
        x.saw(2, 1, -3);
        whose(x, 0, Check.NONE, 0);
        check.due("whose(-1)", x.whose(-1), Check.BAD);
        check.due("whose(3)", x.whose(3), Check.BAD);
        check.due("nothing is done", x.place(1, 1), 0);
        check.due("no deed", x.count(2), 0);
    }

    private static void slipsAtTheEnd() {
        RankWheels x = Check.told(THREE);
        x.saw(2, 0, -40);
        whose(x, 1, 240, 4);
        x.forget();
        x.saw(2, 0, -41);
        whose(x, 0, Check.NONE, 0);
        x.forget();
        x.saw(2, 0, -1);
        whose(x, 1, 201, 4);
        x.forget();
        for (int i = 0; i < 10; i++) {
            x.slips(0, 99);
        }
        x.saw(0, 0, -999);
        // from -990 on, 9 and all above it end there
        whose(x, 32, 9, 1);
    }

    private static void fromNowOn() {
        RankWheels x = Check.told("m 60 1; m 31 2; e 0; w 10;");
        x.saw(1, 60, -10);
        // he without would come to where he within had slipped to
        whose(x, 1, 10, 1);
        x.saw(0, 0, 0);
        whose(x, 0, Check.NONE, 0);
        x.slips(1, 50);
        whose(x, 1, 120, 2);
        x.wheels();
        whose(x, 1, 121, 2);
        x.undo();
        whose(x, 1, 120, 2);
    }
}
