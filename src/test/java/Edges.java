import java.util.List;
import java.util.function.Supplier;

/** Asks a call at both ends of what it takes and beyond them, and whether what was refused left all as it was. */
final class Edges {
    interface Ask {
        long of(RankWheels x);
    }

    interface AskWith {
        long of(RankWheels x, int n);
    }

    static final String THREE = "m 20 5;m 30 6;m 40 7;";
    static final String SEVEN = "m 20 5;m 30 6;m 40 7;m 50 8;m 60 9;m 10 4;m 15 3;";

    private final Check check;
    private final long refusal;

    Edges(Check itsCheck, long itsRefusal) {
        check = itsCheck;
        refusal = itsRefusal;
    }

    /** Something in every part of the object: deeds, images, what was seen, a trace, a text not yet read. */
    static RankWheels busy(String men) {
        RankWheels x = Check.told(men + "p 24;e 3;w 4;");
        int last = x.count(0) - 1;
        x.slips(1, 12);
        x.wheels();
        x.keep(0);
        x.hops(last);
        x.keep(1);
        x.swaps(0, last);
        x.minds(7, 1);
        x.speeds(33);
        x.saw(1, 0, x.place(1, 1) - 6);
        x.rate(5, 1);
        Check.type(x, "m 9 8;p 7");
        return x;
    }

    static RankWheels busyThree() {
        return busy(THREE);
    }

    static RankWheels busySeven() {
        return busy(SEVEN);
    }

    /** The answer is due, and behind it all is as in an object that was not asked. */
    void changesNothing(String call, Supplier<RankWheels> making, Ask ask, long due) {
        RankWheels asked = making.get();
        check.due(call, ask.of(asked), due);
        check.holds(call + " changes nothing", Tale.of(asked).equals(Tale.of(making.get())));
    }

    /** What only looks changes nothing, and so answers the same when it is asked again. */
    void onlyLooks(String call, Ask ask) {
        for (Supplier<RankWheels> making : List.<Supplier<RankWheels>>of(Edges::busyThree, Edges::busySeven)) {
            RankWheels asked = making.get();
            long first = ask.of(asked);
            check.due(call + " again", ask.of(asked), first);
            check.holds(call + " changes nothing", Tale.of(asked).equals(Tale.of(making.get())));
        }
    }

    void refused(String call, Supplier<RankWheels> making, Ask ask) {
        changesNothing(call, making, ask, refusal);
    }

    /** All beyond least .. most is refused, by a busy rank of three and by one of seven. */
    void beyond(String call, AskWith ask, int least, int most) {
        int[] numbers = {least - 1, most + 1, least - 256, most + 256, Integer.MIN_VALUE, Integer.MAX_VALUE};
        for (int n : numbers) {
            refused(call + " of three, n = " + n, Edges::busyThree, x -> ask.of(x, n));
            refused(call + " of seven, n = " + n, Edges::busySeven, x -> ask.of(x, n));
        }
    }

    /** So is each number below least, and each from MEN on, of whom there are three, seven or none. */
    void beyondMen(String call, AskWith ask, int least) {
        int[] below = {least - 1, least - 256, Integer.MIN_VALUE};
        int[] above = {0, 1, 256, Integer.MAX_VALUE - 7};
        for (int n : below) {
            refused(call + " of three, n = " + n, Edges::busyThree, x -> ask.of(x, n));
            refused(call + " of seven, n = " + n, Edges::busySeven, x -> ask.of(x, n));
        }
        for (int n : above) {
            refused(call + " of three, n = " + (3 + n), Edges::busyThree, x -> ask.of(x, 3 + n));
            refused(call + " of seven, n = " + (7 + n), Edges::busySeven, x -> ask.of(x, 7 + n));
        }
        refused(call + " of nobody, n = 0", RankWheels::new, x -> ask.of(x, 0));
    }
}
