/** Promises 27 to 31: kinds of steps, the trace, images, counts; all answers worked out by hand. */
public final class KindsTest {
    private static final Check check = new Check();

    public static void main(String[] args) {
        rates();
        wrongRates();
        images();
        imagesKeepWhatMayBeUndone();
        counts();
        check.end("KindsTest");
    }

    private static RankWheels rank() {
        RankWheels x = Check.told("m 20 1; m 30 2; m 40 3; p 21;");
        x.slips(1, 4);
        x.slips(2, 10);
        x.hops(2);
        x.swaps(0, 2);
        return x;
    }

    private static void rates() {
        RankWheels x = rank();
        int[][] due = {{0, 40, 0, 80, 6, 0}, {10, 40, 14, 80, 20, 10}, {21, 41, 31, 82, 37, 30}};
        int[] adds = {1, 11, 101, 1011, 10101, 100001};
        long trace = 0;
        for (int p = 0; p < 3; p++) {
            for (int kind = 0; kind < 6; kind++) {
                check.due("rate(" + kind + ", " + p + ")", x.rate(kind, p), due[p][kind]);
                trace += adds[kind];
                check.due("trace()", x.trace(), trace);
            }
        }
        check.due("trace() again", x.trace(), trace);
        check.due("no deed", x.count(2), 4);
        x.undo();
        x.keep(0);
        x.back(0);
        x.wheels();
        check.due("the trace stays", x.trace(), trace);
    }

    private static void wrongRates() {
        RankWheels x = rank();
        check.due("rate(-1, 0)", x.rate(-1, 0), Check.NO);
        check.due("rate(6, 0)", x.rate(6, 0), Check.NO);
        check.due("rate(0, -1)", x.rate(0, -1), Check.NO);
        check.due("rate(5, 3)", x.rate(5, 3), Check.NO);
        check.due("rate(5, 7)", x.rate(5, 7), Check.NO);
        check.due("nobody's rate", new RankWheels().rate(0, 0), Check.NO);
        check.due("no trace of them", x.trace(), 0);
    }

    private static void images() {
        RankWheels x = rank();
        check.due("back(0) of none", x.back(0), Check.STATE);
        check.due("back(1) of none", x.back(1), Check.STATE);
        check.due("keep(-1)", x.keep(-1), Check.BAD);
        check.due("keep(2)", x.keep(2), Check.BAD);
        check.due("back(-1)", x.back(-1), Check.BAD);
        check.due("back(2)", x.back(2), Check.BAD);
        check.due("keep(1)", x.keep(1), 0);
        check.due("back(0) of none still", x.back(0), Check.STATE);
        x.wheels();
        x.wheels();
        x.minds(1, 1);
        x.speeds(1);
        x.swaps(0, 1);
        x.hops(0);
        x.saw(0, 0, 0);
        Check.type(x, "abc");
        check.due("keep(0)", x.keep(0), 2);
        check.due("back(1)", x.back(1), 0);
        int[] now = {0, 21, 5, 2, 6, 1, 4, 1};
        for (int what = 0; what < now.length; what++) {
            check.due("back: now(" + what + ")", x.now(what), now[what]);
        }
        int[] who = {2, 1, 0};
        int[] inches = {0, -4, -10};
        for (int p = 0; p < 3; p++) {
            check.due("back: who is in " + p, x.place(p, 0), who[p]);
            check.due("back: inches of " + p, x.place(p, 1), inches[p]);
        }
        check.due("back: what was SEEN stays", x.count(1), 1);
        check.due("back: the text stays", x.count(3), 3);
        check.due("back: the deeds of then", x.count(2), 4);
        check.due("back(0)", x.back(0), 2);
        check.due("back: PACE", x.now(1), 1);
        check.due("back: the deeds", x.count(2), 10);
        x.wheels();
        check.due("keep(0) anew", x.keep(0), 3);
        x.undo();
        check.due("back(0) anew", x.back(0), 3);
        check.due("an IMAGE stays", x.back(0), 3);
    }

    private static void imagesKeepWhatMayBeUndone() {
        RankWheels x = Check.told("m 9 9; m 9 9;");
        for (int n = 1; n <= 10; n++) {
            x.slips(1, n);
        }
        x.keep(0);
        for (int n = 0; n < 10; n++) {
            x.hops(0);
        }
        x.back(0);
        int inches = -55;
        for (int n = 10; n >= 1; n--) {
            inches += n;
            check.due("undo() of the IMAGE's", x.undo(), n - 1);
            check.due("its inches", x.place(1, 1), inches);
        }
        check.due("no more", x.undo(), Check.STATE);
        check.due("back(0) once more", x.back(0), 0);
        check.due("all ten once more", x.count(2), 10);
    }

    private static void counts() {
        RankWheels x = Check.told("m 9 9; m 9 9;");
        x.saw(0, 0, 0);
        x.slips(0, 1);
        x.slips(0, 1);
        x.slips(0, 1);
        Check.type(x, "mmmm");
        int[] due = {2, 1, 3, 4};
        for (int what = 0; what < 4; what++) {
            check.due("count(" + what + ")", x.count(what), due[what]);
        }
        check.due("count(-1)", x.count(-1), Check.BAD);
        check.due("count(4)", x.count(4), Check.BAD);
    }
}
