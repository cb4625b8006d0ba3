/** The rank that wheels: what it must do is told, promise by promise, in ../shared/DOC.md. */
public final class RankWheels {
    public static final int BAD = -1001, STATE = -1002, FULL = -1003, NONE = -1009;
    public static final int NO = -1000000;

    private static final int MOST_BYTES = 120, MOST_MEN = 7, MOST_SEEN = 6, MOST_UNDONE = 10, IMAGES = 2;
    private static final int MOST_LEG = 60, MOST_HEIGHT = 99, MOST_PACE = 60, MOST_MIND = 10;
    private static final int FIRST_PACE = 30, FIRST_EYE = 5, FIRST_ELBOW = 2;
    private static final int MOST_INCHES = 999, MOST_PACES = 9999, MOST_SLIP = 99;
    private static final int MOST_TILL_DRESSED = 300, MOST_TILL_IN_STEP = 20, MOST_LOOK = 60;
    private static final int MOST_GAP = 99, MOST_BEHIND = 60, MOST_POST = 20, MOST_BLAME = 40;
    private static final int FAULT_BASE = -2000;
    /** Above all that MEN can WANT above their LEGS, and above how far apart their HEIGHTS can be. */
    private static final int UNORDERED = 1000000;
    /** In place of a PLACE where no post stands in the way. */
    private static final int NO_POST = -1;
    private static final int BULGE_ASKED = -1, ABOVE_ASKED = -1, APART_ASKED = -2;

    private final int[] text = new int[MOST_BYTES];
    private int bytes;
    private final Telling telling = new Telling();
    private final Men men = new Men();
    private final Line line = new Line(men);
    /** A second line to look ahead with, so that looking changes nothing and makes nothing. */
    private final Line ahead = new Line(men);
    private final Past past = new Past(men);
    private final Image[] images = new Image[IMAGES];
    private final Sightings sightings = new Sightings();
    private final Ordering ordering = new Ordering(men);
    private long traced;

    public RankWheels() {
        for (int i = 0; i < IMAGES; i++) {
            images[i] = new Image(men);
        }
        line.formUp(FIRST_PACE, FIRST_EYE, FIRST_ELBOW);
    }

    // ---- the rank

    public int type(int c) {
        if (!within(c, 0, 255)) {
            return BAD;
        }
        if (bytes >= MOST_BYTES) {
            return FULL;
        }
        text[bytes] = c;
        bytes++;
        return bytes;
    }

    public int clear() {
        int had = bytes;
        bytes = 0;
        return had;
    }

    public int rank() {
        if (!telling.understands(text, bytes)) {
            return FAULT_BASE - telling.start;
        }
        men.copyFrom(telling.men);
        line.formUp(telling.toldOr(telling.pace, FIRST_PACE), telling.toldOr(telling.eye, FIRST_EYE),
                telling.toldOr(telling.elbow, FIRST_ELBOW));
        past.size = 0;
        sightings.size = 0;
        for (int i = 0; i < IMAGES; i++) {
            images[i].kept = false;
        }
        bytes = 0;
        return telling.items;
    }

    public int man(int m, int what) {
        if (!within(m, 0, men.number - 1)) {
            return BAD;
        }
        switch (what) {
            case 0: return men.leg[m];
            case 1: return men.height[m];
            case 2: return line.placeOf(m);
            default: return BAD;
        }
    }

    public int place(int p, int what) {
        if (!isPlace(p)) {
            return BAD;
        }
        switch (what) {
            case 0: return line.who[p];
            case 1: return line.inches[p];
            case 2: return line.foot[p];
            case 3: return line.wants(p);
            default: return BAD;
        }
    }

    // ---- what is done

    public int wheels() {
        if (line.paces >= MOST_PACES) {
            return STATE;
        }
        past.remember(line);
        line.wheelOnce(NO_POST);
        line.paces++;
        return line.bulge();
    }

    public int slips(int p, int n) {
        if (!isPlace(p) || !within(n, 1, MOST_SLIP)) {
            return BAD;
        }
        past.remember(line);
        line.lose(p, n);
        return line.inches[p];
    }

    public int hops(int p) {
        if (!isPlace(p)) {
            return BAD;
        }
        past.remember(line);
        line.foot[p] = 1 - line.foot[p];
        return line.foot[p];
    }

    public int swaps(int p, int q) {
        if (!isPlace(p) || !isPlace(q) || p == q) {
            return BAD;
        }
        past.remember(line);
        int first = line.who[p];
        line.who[p] = line.who[q];
        line.who[q] = first;
        return line.who[p];
    }

    public int minds(int eye, int elbow) {
        if (!within(eye, 0, MOST_MIND) || !within(elbow, 0, MOST_MIND)) {
            return BAD;
        }
        past.remember(line);
        int before = bothMinds(line.eye, line.elbow);
        line.eye = eye;
        line.elbow = elbow;
        return before;
    }

    public int speeds(int pace) {
        if (!within(pace, 1, MOST_PACE)) {
            return BAD;
        }
        past.remember(line);
        int before = line.pace;
        line.pace = pace;
        return before;
    }

    public int undo() {
        if (past.size == 0) {
            return STATE;
        }
        past.takeBack(line);
        return past.size;
    }

    public int now(int what) {
        switch (what) {
            case 0: return line.paces;
            case 1: return line.pace;
            case 2: return line.eye;
            case 3: return line.elbow;
            case 4: return line.bulge();
            case 5: return line.bulgePlace();
            case 6: return line.feet();
            case 7: return line.placesInLine();
            default: return BAD;
        }
    }

    // ---- what comes

    public int dressed() {
        return pacesTillDressed(line.eye, line.elbow, MOST_TILL_DRESSED);
    }

    public int looks(int n, int p) {
        boolean known = p == BULGE_ASKED || isPlace(p);
        if (!known || !within(n, 0, MOST_LOOK)) {
            return BAD;
        }
        lookAhead(n, NO_POST);
        return isPlace(p) ? ahead.inches[p] : ahead.bulge();
    }

    public int mix(int what) {
        if (!within(what, 0, 1)) {
            return BAD;
        }
        int best = NONE;
        int soonest = MOST_TILL_DRESSED + 1;
        for (int eye = 0; eye <= MOST_MIND; eye++) {
            for (int elbow = 0; elbow <= MOST_MIND; elbow++) {
                int paces = pacesTillDressed(eye, elbow, soonest - 1);
                if (paces != NONE) {
                    soonest = paces;
                    best = bothMinds(eye, elbow);
                }
            }
        }
        return what == 0 || best == NONE ? best : soonest;
    }

    public int fastest() {
        for (int pace = MOST_PACE; pace > 1; pace--) {
            if (allCanStride(pace)) {
                return pace;
            }
        }
        return 1;
    }

    public int order(int p) {
        if (p != ABOVE_ASKED && p != APART_ASKED && !isPlace(p)) {
            return BAD;
        }
        ordering.arrange(line.pace);
        if (p == ABOVE_ASKED) {
            return ordering.leastAbove;
        }
        if (p == APART_ASKED) {
            return ordering.leastApart;
        }
        return isPlace(p) ? ordering.best[p] : BAD;
    }

    public int inStep() {
        ahead.copyFrom(line);
        for (int k = 0; k <= MOST_TILL_IN_STEP; k++) {
            if (ahead.feetAlike()) {
                return k;
            }
            ahead.wheelOnce(NO_POST);
        }
        return NONE;
    }

    public int behind(int n) {
        if (!within(n, 0, MOST_GAP)) {
            return BAD;
        }
        ahead.copyFrom(line);
        int least = ahead.pacesBehind(n);
        for (int k = 0; k < MOST_LOOK; k++) {
            ahead.wheelOnce(NO_POST);
            least = Math.max(least, ahead.pacesBehind(n));
        }
        return least > MOST_BEHIND ? NONE : least;
    }

    public int post(int p, int n) {
        if (!isPlace(p) || !within(n, 1, MOST_POST)) {
            return BAD;
        }
        lookAhead(n, p);
        return ahead.bulge();
    }

    public int odds(int x, int k, int what) {
        if (!within(x, 0, 10) || !within(k, 0, MOST_MEN) || !within(what, 0, 1)) {
            return BAD;
        }
        int upper = waysInTenths(x, k, men.number);
        int lower = power(10, men.number);
        int shared = greatestDivisor(lower, upper);
        if (shared == 0) {
            return BAD;
        }
        return what == 0 ? upper / shared : lower / shared;
    }

    // ---- what was seen

    public int saw(int p, int n, int inches) {
        if (!isPlace(p) || !within(n, 0, MOST_LOOK) || !within(inches, -MOST_INCHES, MOST_INCHES)) {
            return BAD;
        }
        if (sightings.size >= MOST_SEEN) {
            return FULL;
        }
        sightings.note(p, n, inches);
        return sightings.size;
    }

    public int forget() {
        int had = sightings.size;
        sightings.size = 0;
        return had;
    }

    public int whose(int what) {
        if (!within(what, 0, 2)) {
            return BAD;
        }
        int many = 0;
        int first = NONE;
        int places = 0;
        for (int p = 0; p < men.number; p++) {
            for (int n = 1; n <= MOST_BLAME; n++) {
                if (tellsAllSeen(p, n)) {
                    many++;
                    first = first == NONE ? 100 * p + n : first;
                    places |= 1 << p;
                }
            }
        }
        if (what == 0) {
            return many;
        }
        return what == 1 ? first : places;
    }

    // ---- kinds, images

    public int rate(int kind, int p) {
        if (!isPlace(p)) {
            return NO;
        }
        switch (kind) {
            case 0: return rateOfStep(p);
            case 1: return rateOfShort(p);
            case 2: return rateOfSeen(p);
            case 3: return rateOfMarked(p);
            case 4: return rateOfBulging(p);
            case 5: return rateOfHopped(p);
            default: return NO;
        }
    }

    public int keep(int image) {
        if (!within(image, 0, IMAGES - 1)) {
            return BAD;
        }
        images[image].line.copyFrom(line);
        images[image].past.copyFrom(past);
        images[image].kept = true;
        return line.paces;
    }

    public int back(int image) {
        if (!within(image, 0, IMAGES - 1)) {
            return BAD;
        }
        if (!images[image].kept) {
            return STATE;
        }
        line.copyFrom(images[image].line);
        past.copyFrom(images[image].past);
        return line.paces;
    }

    public int count(int what) {
        switch (what) {
            case 0: return men.number;
            case 1: return sightings.size;
            case 2: return past.size;
            case 3: return bytes;
            default: return BAD;
        }
    }

    public long trace() {
        return traced;
    }

    // ---- helpers

    private static boolean within(int n, int least, int most) {
        return n >= least && n <= most;
    }

    private boolean isPlace(int p) {
        return within(p, 0, men.number - 1);
    }

    private static int bothMinds(int eye, int elbow) {
        return 11 * eye + elbow;
    }

    /** What he at PLACE p of so many MEN wants at a PACE; one alone turns on the spot. */
    private static int wanted(int pace, int p, int number) {
        return number < 2 ? 0 : pace * p / (number - 1);
    }

    private void lookAhead(int n, int post) {
        ahead.copyFrom(line);
        for (int k = 0; k < n && k < MOST_LOOK; k++) {
            ahead.wheelOnce(post);
        }
    }

    private int pacesTillDressed(int eye, int elbow, int most) {
        ahead.copyFrom(line);
        ahead.eye = eye;
        ahead.elbow = elbow;
        for (int k = 0; k <= most; k++) {
            if (ahead.placesInLine() == men.number) {
                return k;
            }
            // A line that one pace leaves as it was stays so for ever.
            if (!ahead.wheelOnce(NO_POST)) {
                return NONE;
            }
        }
        return NONE;
    }

    private boolean allCanStride(int pace) {
        for (int p = 0; p < men.number; p++) {
            if (wanted(pace, p, men.number) > line.legAt(p)) {
                return false;
            }
        }
        return true;
    }

    /** Of all 10 to the power of the MEN, in how many k at most slip. */
    private static int waysInTenths(int x, int k, int number) {
        int sum = 0;
        int choices = 1;
        for (int slipping = 0; slipping <= k && slipping <= number; slipping++) {
            sum += choices * power(x, slipping) * power(10 - x, number - slipping);
            choices = choices * (number - slipping) / (slipping + 1);
        }
        return sum;
    }

    private static int power(int base, int times) {
        int product = 1;
        for (int i = 0; i < times; i++) {
            product *= base;
        }
        return product;
    }

    private static int greatestDivisor(int a, int b) {
        int greater = a;
        int lesser = b;
        // Numbers of up to 10 to the power of 7 need far fewer turns than this.
        for (int i = 0; i < 100 && lesser != 0; i++) {
            int rest = greater % lesser;
            greater = lesser;
            lesser = rest;
        }
        return greater;
    }

    private boolean tellsAllSeen(int p, int n) {
        ahead.copyFrom(line);
        ahead.lose(p, n);
        int last = sightings.lastPace();
        for (int k = 0; k <= last; k++) {
            if (!sightings.fit(ahead, k)) {
                return false;
            }
            ahead.wheelOnce(NO_POST);
        }
        return true;
    }

    // ---- what each KIND does; "up" is the call of the KIND above it

    private int rateOfStep(int p) {
        traced += 1;
        return line.wants(p);
    }

    private int rateOfShort(int p) {
        traced += 10;
        return rateOfStep(p) + line.legAt(p);
    }

    private int rateOfSeen(int p) {
        traced += 100;
        return rateOfStep(p) - line.inches[p];
    }

    private int rateOfMarked(int p) {
        traced += 1000;
        return rateOfShort(p) * 2;
    }

    private int rateOfBulging(int p) {
        traced += 10000;
        return rateOfSeen(p) + line.bulge();
    }

    private int rateOfHopped(int p) {
        traced += 100000;
        return rateOfStep(p) + line.foot[p] * 9;
    }

    /** The MEN as the text told them; they stay as they are, wherever they stand. */
    private static final class Men {
        int number;
        final int[] leg = new int[MOST_MEN];
        final int[] height = new int[MOST_MEN];

        void join(int itsLeg, int itsHeight) {
            if (number < MOST_MEN) {
                leg[number] = itsLeg;
                height[number] = itsHeight;
                number++;
            }
        }

        void copyFrom(Men other) {
            number = other.number;
            System.arraycopy(other.leg, 0, leg, 0, MOST_MEN);
            System.arraycopy(other.height, 0, height, 0, MOST_MEN);
        }
    }

    /** The rank at one time: who stands where, how far ahead, on which foot, and how it is minded. */
    private static final class Line {
        final Men men;
        final int[] who = new int[MOST_MEN];
        final int[] inches = new int[MOST_MEN];
        final int[] foot = new int[MOST_MEN];
        int pace;
        int eye;
        int elbow;
        int paces;

        Line(Men itsMen) {
            men = itsMen;
        }

        void formUp(int itsPace, int itsEye, int itsElbow) {
            for (int p = 0; p < MOST_MEN; p++) {
                who[p] = p;
                inches[p] = 0;
                foot[p] = 0;
            }
            pace = itsPace;
            eye = itsEye;
            elbow = itsElbow;
            paces = 0;
        }

        void copyFrom(Line other) {
            System.arraycopy(other.who, 0, who, 0, MOST_MEN);
            System.arraycopy(other.inches, 0, inches, 0, MOST_MEN);
            System.arraycopy(other.foot, 0, foot, 0, MOST_MEN);
            pace = other.pace;
            eye = other.eye;
            elbow = other.elbow;
            paces = other.paces;
        }

        int placeOf(int m) {
            for (int p = 0; p < men.number; p++) {
                if (who[p] == m) {
                    return p;
                }
            }
            return BAD;
        }

        int legAt(int p) {
            return men.leg[who[p]];
        }

        int wants(int p) {
            return wanted(pace, p, men.number);
        }

        void lose(int p, int n) {
            inches[p] = Math.max(-MOST_INCHES, inches[p] - n);
        }

        /** One PACE, uncounted: he at the post takes no step. Whether INCHES changed anywhere. */
        boolean wheelOnce(int post) {
            boolean moved = moveAll(post);
            changeFeet();
            return moved;
        }

        private boolean moveAll(int post) {
            boolean moved = false;
            int inward = 0;
            for (int p = 0; p < men.number; p++) {
                int own = inches[p];
                int want = wants(p);
                int sees = p + 1 < men.number ? inches[p + 1] - own : 0;
                int feels = p > 0 ? inward - own : 0;
                int takes = p == post ? 0 : stepOf(p, want, sees, feels);
                int after = own + takes - want;
                inches[p] = Math.max(-MOST_INCHES, Math.min(MOST_INCHES, after));
                moved = moved || inches[p] != own;
                // The next one feels where this one was ahead of the pace.
                inward = own;
            }
            return moved;
        }

        private int stepOf(int p, int want, int sees, int feels) {
            int would = want + eye * sees / 10 + elbow * feels / 10;
            return Math.min(legAt(p), Math.max(0, would));
        }

        private void changeFeet() {
            int inward = 0;
            for (int p = 0; p < men.number; p++) {
                int own = foot[p];
                boolean unlikeInward = p == 0 || inward != own;
                boolean unlikeOutward = p + 1 >= men.number || foot[p + 1] != own;
                if (men.number > 1 && unlikeInward && unlikeOutward) {
                    foot[p] = 1 - own;
                }
                inward = own;
            }
        }

        int bulge() {
            int greatest = 0;
            for (int p = 0; p + 1 < men.number; p++) {
                greatest = Math.max(greatest, gapAt(p));
            }
            return greatest;
        }

        int bulgePlace() {
            int greatest = bulge();
            for (int p = 0; p + 1 < men.number; p++) {
                if (gapAt(p) == greatest) {
                    return p;
                }
            }
            return NONE;
        }

        private int gapAt(int p) {
            return Math.abs(inches[p + 1] - inches[p]);
        }

        int feet() {
            int bits = 0;
            for (int p = 0; p < men.number; p++) {
                bits |= foot[p] << p;
            }
            return bits;
        }

        boolean feetAlike() {
            for (int p = 0; p + 1 < men.number; p++) {
                if (foot[p] != foot[p + 1]) {
                    return false;
                }
            }
            return true;
        }

        int placesInLine() {
            int many = 0;
            for (int p = 0; p < men.number; p++) {
                if (inches[p] == 0) {
                    many++;
                }
            }
            return many;
        }

        /** The least k such that, as it stands, k times what each WANTS and his INCHES are above n. */
        int pacesBehind(int n) {
            int least = 0;
            for (int p = 0; p < men.number; p++) {
                int want = wants(p);
                int missing = n - inches[p];
                if (want > 0 && missing >= 0) {
                    least = Math.max(least, missing / want + 1);
                }
            }
            return least;
        }
    }

    /** What may be UNDONE: the line as it was ahead of each of the latest deeds, the oldest first. */
    private static final class Past {
        final Line[] known = new Line[MOST_UNDONE];
        int size;

        Past(Men men) {
            for (int i = 0; i < MOST_UNDONE; i++) {
                known[i] = new Line(men);
            }
        }

        void remember(Line line) {
            if (size >= MOST_UNDONE) {
                loseOldest();
            }
            known[size].copyFrom(line);
            size++;
        }

        private void loseOldest() {
            Line oldest = known[0];
            for (int i = 0; i + 1 < MOST_UNDONE; i++) {
                known[i] = known[i + 1];
            }
            known[MOST_UNDONE - 1] = oldest;
            size = MOST_UNDONE - 1;
        }

        void takeBack(Line line) {
            if (size > 0) {
                size--;
                line.copyFrom(known[size]);
            }
        }

        void copyFrom(Past other) {
            size = other.size;
            for (int i = 0; i < size; i++) {
                known[i].copyFrom(other.known[i]);
            }
        }
    }

    private static final class Image {
        final Line line;
        final Past past;
        boolean kept;

        Image(Men men) {
            line = new Line(men);
            past = new Past(men);
        }
    }

    /** What was SEEN: INCHES of PLACES behind so many PACES from NOW on, whenever NOW is. */
    private static final class Sightings {
        int size;
        final int[] place = new int[MOST_SEEN];
        final int[] pace = new int[MOST_SEEN];
        final int[] inches = new int[MOST_SEEN];

        void note(int p, int n, int seen) {
            if (size < MOST_SEEN) {
                place[size] = p;
                pace[size] = n;
                inches[size] = seen;
                size++;
            }
        }

        /** -1 if nothing was SEEN: then there is no pace at which something must fit. */
        int lastPace() {
            int last = -1;
            for (int i = 0; i < size; i++) {
                last = Math.max(last, pace[i]);
            }
            return last;
        }

        boolean fit(Line line, int k) {
            for (int i = 0; i < size; i++) {
                if (pace[i] == k && line.inches[place[i]] != inches[i]) {
                    return false;
                }
            }
            return true;
        }
    }

    /** Looks for the ORDER, place by place, the lesser MAN first. */
    private static final class Ordering {
        private final Men men;
        private final int[] standing = new int[MOST_MEN];
        private int pace;
        final int[] best = new int[MOST_MEN];
        int leastAbove;
        int leastApart;

        Ordering(Men itsMen) {
            men = itsMen;
        }

        void arrange(int itsPace) {
            pace = itsPace;
            leastAbove = UNORDERED;
            leastApart = UNORDERED;
            fillFrom(this, 0, 0, 0, 0);
        }

        /** Tries each MAN not yet taken (bits) in PLACE p, which is as deep as this goes: 7 at most. */
        private static void fillFrom(Ordering o, int p, int taken, int above, int apart) {
            // Both sums only grow, so what is no better already can't become better.
            if (!o.isBetter(above, apart)) {
                return;
            }
            if (p >= o.men.number) {
                o.becomeBest(above, apart);
                return;
            }
            for (int m = 0; m < o.men.number; m++) {
                if ((taken & 1 << m) == 0) {
                    o.standing[p] = m;
                    fillFrom(o, p + 1, taken | 1 << m, above + o.aboveLegAt(p), apart + o.apartInwardOf(p));
                }
            }
        }

        private int aboveLegAt(int p) {
            return Math.max(0, wanted(pace, p, men.number) - men.leg[standing[p]]);
        }

        private int apartInwardOf(int p) {
            return p == 0 ? 0 : Math.abs(men.height[standing[p]] - men.height[standing[p - 1]]);
        }

        private boolean isBetter(int above, int apart) {
            return above < leastAbove || above == leastAbove && apart < leastApart;
        }

        private void becomeBest(int above, int apart) {
            leastAbove = above;
            leastApart = apart;
            System.arraycopy(standing, 0, best, 0, MOST_MEN);
        }
    }

    /** Reads the text token by token; what it tells is held here until all of it is understood. */
    private static final class Telling {
        private static final int UNTOLD = -1;
        private static final int ENDED = 0, LETTERS = 1, NUMBER = 2, SEMICOLON = 3, UNKNOWN = 4;
        private static final int ITEM_DUE = 0, LEG_DUE = 1, HEIGHT_DUE = 2, PACE_DUE = 3, EYE_DUE = 4,
                ELBOW_DUE = 5, SEMICOLON_DUE = 6;

        final Men men = new Men();
        int pace;
        int eye;
        int elbow;
        int items;
        /** Where the latest token begins, the text's length behind the last one: the FAULT, if there is one. */
        int start;
        private int[] text = new int[0];
        private int length;
        private int at;
        private int token;
        /** Of LETTERS the only one, of a NUMBER itself; UNTOLD if there is no such. */
        private int value;
        private int due;
        private int leg;

        boolean understands(int[] itsText, int itsLength) {
            beginWith(itsText, itsLength);
            // A token takes a byte at least, so there are no more of them than bytes, and the end.
            for (int i = 0; i <= length; i++) {
                readToken();
                if (token == ENDED) {
                    return due == ITEM_DUE;
                }
                if (!tokenStands()) {
                    return false;
                }
            }
            return false;
        }

        int toldOr(int told, int first) {
            return told == UNTOLD ? first : told;
        }

        private void beginWith(int[] itsText, int itsLength) {
            text = itsText;
            length = Math.min(itsLength, itsText.length);
            at = 0;
            due = ITEM_DUE;
            men.number = 0;
            pace = UNTOLD;
            eye = UNTOLD;
            elbow = UNTOLD;
            items = 0;
        }

        private boolean tokenStands() {
            switch (due) {
                case ITEM_DUE:
                    return beginsItem();
                case LEG_DUE:
                    leg = numberWithin(1, MOST_LEG);
                    due = HEIGHT_DUE;
                    return leg != UNTOLD;
                case HEIGHT_DUE:
                    return endsMan(numberWithin(1, MOST_HEIGHT));
                case PACE_DUE:
                    pace = numberWithin(1, MOST_PACE);
                    due = SEMICOLON_DUE;
                    return pace != UNTOLD;
                case EYE_DUE:
                    eye = numberWithin(0, MOST_MIND);
                    due = SEMICOLON_DUE;
                    return eye != UNTOLD;
                case ELBOW_DUE:
                    elbow = numberWithin(0, MOST_MIND);
                    due = SEMICOLON_DUE;
                    return elbow != UNTOLD;
                default:
                    return endsItem();
            }
        }

        private boolean beginsItem() {
            if (token != LETTERS) {
                return false;
            }
            switch (value) {
                case 'm':
                    due = LEG_DUE;
                    return men.number < MOST_MEN;
                case 'p':
                    due = PACE_DUE;
                    return pace == UNTOLD;
                case 'e':
                    due = EYE_DUE;
                    return eye == UNTOLD;
                case 'w':
                    due = ELBOW_DUE;
                    return elbow == UNTOLD;
                default:
                    return false;
            }
        }

        private boolean endsMan(int height) {
            due = SEMICOLON_DUE;
            if (height == UNTOLD) {
                return false;
            }
            men.join(leg, height);
            return true;
        }

        private boolean endsItem() {
            due = ITEM_DUE;
            items++;
            return token == SEMICOLON;
        }

        private int numberWithin(int least, int most) {
            return token == NUMBER && within(value, least, most) ? value : UNTOLD;
        }

        private void readToken() {
            while (at < length && text[at] == ' ') {
                at++;
            }
            start = at;
            value = UNTOLD;
            if (at >= length) {
                token = ENDED;
            } else if (isLetter(text[at])) {
                readLetters();
            } else if (isDigit(text[at])) {
                readDigits();
            } else {
                token = text[at] == ';' ? SEMICOLON : UNKNOWN;
                at++;
            }
        }

        private void readLetters() {
            token = LETTERS;
            while (at < length && isLetter(text[at])) {
                at++;
            }
            if (at - start == 1) {
                value = text[start];
            }
        }

        private void readDigits() {
            token = NUMBER;
            while (at < length && isDigit(text[at])) {
                at++;
            }
            int first = text[start] - '0';
            if (at - start == 1) {
                value = first;
            } else if (at - start == 2 && first > 0) {
                value = 10 * first + text[start + 1] - '0';
            }
        }

        private static boolean isLetter(int c) {
            return within(c, 'a', 'z');
        }

        private static boolean isDigit(int c) {
            return within(c, '0', '9');
        }
    }
}
