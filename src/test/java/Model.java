import java.math.BigInteger;
import java.util.ArrayDeque;
import java.util.ArrayList;
import java.util.Arrays;
import java.util.Deque;
import java.util.List;
import java.util.function.Predicate;
import java.util.regex.Matcher;
import java.util.regex.Pattern;

/** The document once more, written by its words alone and without care for speed, to be asked beside the class. */
final class Model {
    private static final int BAD = -1001, STATE = -1002, FULL = -1003, NONE = -1009, NO = -1000000;

    /** NOW, never changed once made. */
    record Snap(int[] who, int[] inches, int[] feet, int pace, int eye, int elbow, int paces) {
        Snap withMinds(int newEye, int newElbow) {
            return new Snap(who, inches, feet, pace, newEye, newElbow, paces);
        }
        Snap withPace(int newPace) {
            return new Snap(who, inches, feet, newPace, eye, elbow, paces);
        }
        Snap withInches(int[] others) {
            return new Snap(who, others, feet, pace, eye, elbow, paces);
        }
        Snap withFeet(int[] others) {
            return new Snap(who, inches, others, pace, eye, elbow, paces);
        }
        Snap withWho(int[] others) {
            return new Snap(others, inches, feet, pace, eye, elbow, paces);
        }
        int size() {
            return who.length;
        }
    }

    record Man(int leg, int height) { }
    record Kept(Snap snap, List<Snap> past) { }
    record Sight(int place, int paces, int inches) { }

    private String text = "";
    private List<Man> men = List.of();
    private Snap now = fresh(0, 30, 5, 2);
    private Deque<Snap> past = new ArrayDeque<>();
    private final Kept[] images = new Kept[2];
    private final List<Sight> seen = new ArrayList<>();
    private long trace;

    private static Snap fresh(int size, int pace, int eye, int elbow) {
        int[] who = new int[size];
        Arrays.setAll(who, i -> i);
        return new Snap(who, new int[size], new int[size], pace, eye, elbow, 0);
    }

    private static boolean in(int n, int least, int most) {
        return least <= n && n <= most;
    }

    private boolean noPlace(int p) {
        return !in(p, 0, men.size() - 1);
    }

    // ---- the rank

    int type(int c) {
        if (!in(c, 0, 255)) return BAD;
        if (text.length() == 120) return FULL;
        text += (char) c;
        return text.length();
    }

    int clear() {
        int had = text.length();
        text = "";
        return had;
    }

    /** One token and where it begins; the last one is empty, at the text's length. */
    record Token(String word, int at) {
        boolean isNumber(int least, int most) {
            return word.matches("0|[1-9][0-9]?") && in(Integer.parseInt(word), least, most);
        }
    }

    private static final Pattern TOKEN = Pattern.compile("[a-z]+|[0-9]+|[^ ]", Pattern.DOTALL);

    private static List<Token> tokens(String text) {
        List<Token> list = new ArrayList<>();
        Matcher matcher = TOKEN.matcher(text);
        while (matcher.find()) list.add(new Token(matcher.group(), matcher.start()));
        list.add(new Token("", text.length()));
        return list;
    }

    int rank() {
        List<Token> tokens = tokens(text);
        List<Man> told = new ArrayList<>();
        int[] minds = {-1, -1, -1};
        int[] least = {1, 0, 0};
        int[] most = {60, 10, 10};
        int items = 0;
        int i = 0;
        while (!tokens.get(i).word().isEmpty()) {
            Token first = tokens.get(i);
            int which = first.word().length() == 1 ? "pewm".indexOf(first.word()) : -1;
            boolean begins = which == 3 ? told.size() < 7 : which >= 0 && minds[which] == -1;
            if (!begins) return -2000 - first.at();
            List<Predicate<Token>> rest = new ArrayList<>();
            if (which == 3) {
                rest.add(t -> t.isNumber(1, 60));
                rest.add(t -> t.isNumber(1, 99));
            } else {
                rest.add(t -> t.isNumber(least[which], most[which]));
            }
            rest.add(t -> t.word().equals(";"));
            for (Predicate<Token> due : rest) {
                i++;
                if (!due.test(tokens.get(i))) return -2000 - tokens.get(i).at();
            }
            if (which == 3) {
                told.add(new Man(Integer.parseInt(tokens.get(i - 2).word()), Integer.parseInt(tokens.get(i - 1).word())));
            } else {
                minds[which] = Integer.parseInt(tokens.get(i - 1).word());
            }
            i++;
            items++;
        }
        men = told;
        now = fresh(told.size(), minds[0] < 0 ? 30 : minds[0], minds[1] < 0 ? 5 : minds[1], minds[2] < 0 ? 2 : minds[2]);
        past.clear();
        seen.clear();
        Arrays.fill(images, null);
        text = "";
        return items;
    }

    int man(int m, int what) {
        if (noPlace(m) || !in(what, 0, 2)) return BAD;
        if (what == 2) {
            int p = 0;
            while (now.who()[p] != m) p++;
            return p;
        }
        return what == 0 ? men.get(m).leg() : men.get(m).height();
    }

    int place(int p, int what) {
        if (noPlace(p) || !in(what, 0, 3)) return BAD;
        return List.of(now.who()[p], now.inches()[p], now.feet()[p], wants(now.pace(), p)).get(what);
    }

    private int wants(int pace, int p) {
        return men.size() == 1 ? 0 : pace * p / (men.size() - 1);
    }

    // ---- what is done

    private Snap paced(Snap s, int post) {
        int n = s.size();
        int[] inches = new int[n];
        int[] feet = new int[n];
        for (int p = 0; p < n; p++) {
            int sees = p == n - 1 ? 0 : s.inches()[p + 1] - s.inches()[p];
            int feels = p == 0 ? 0 : s.inches()[p - 1] - s.inches()[p];
            int want = wants(s.pace(), p);
            int would = want + tenths(s.eye(), sees) + tenths(s.elbow(), feels);
            int takes = would;
            if (takes < 0) takes = 0;
            if (takes > men.get(s.who()[p]).leg()) takes = men.get(s.who()[p]).leg();
            if (p == post) takes = 0;
            inches[p] = clamp(s.inches()[p] + (takes - want));
            List<Integer> beside = new ArrayList<>();
            if (p > 0) beside.add(s.feet()[p - 1]);
            if (p < n - 1) beside.add(s.feet()[p + 1]);
            boolean unlikeAll = !beside.isEmpty() && !beside.contains(s.feet()[p]);
            feet[p] = unlikeAll ? 1 - s.feet()[p] : s.feet()[p];
        }
        return new Snap(s.who(), inches, feet, s.pace(), s.eye(), s.elbow(), s.paces() + 1);
    }

    private static int tenths(int tenths, int of) {
        int size = tenths * Math.abs(of) / 10;
        return of < 0 ? -size : size;
    }

    private static int clamp(int inches) {
        return inches < -999 ? -999 : inches > 999 ? 999 : inches;
    }

    private static int bulge(Snap s) {
        int greatest = 0;
        for (int p = 1; p < s.size(); p++) {
            int apart = s.inches()[p] - s.inches()[p - 1];
            greatest = Math.max(greatest, apart < 0 ? -apart : apart);
        }
        return greatest;
    }

    private static int bulgePlace(Snap s) {
        for (int p = 1; p < s.size(); p++) {
            if (Math.abs(s.inches()[p] - s.inches()[p - 1]) == bulge(s)) return p - 1;
        }
        return NONE;
    }

    private void becomes(Snap next) {
        past.addLast(now);
        if (past.size() > 10) past.removeFirst();
        now = next;
    }

    private static Snap slipped(Snap s, int p, int n) {
        int[] inches = s.inches().clone();
        inches[p] = clamp(inches[p] - n);
        return s.withInches(inches);
    }

    int wheels() {
        if (now.paces() == 9999) return STATE;
        becomes(paced(now, -1));
        return bulge(now);
    }

    int slips(int p, int n) {
        if (noPlace(p) || !in(n, 1, 99)) return BAD;
        becomes(slipped(now, p, n));
        return now.inches()[p];
    }

    int hops(int p) {
        if (noPlace(p)) return BAD;
        int[] feet = now.feet().clone();
        feet[p] ^= 1;
        becomes(now.withFeet(feet));
        return feet[p];
    }

    int swaps(int p, int q) {
        if (noPlace(p) || noPlace(q) || p == q) return BAD;
        int[] who = now.who().clone();
        who[p] = now.who()[q];
        who[q] = now.who()[p];
        becomes(now.withWho(who));
        return who[p];
    }

    int minds(int eye, int elbow) {
        if (!in(eye, 0, 10) || !in(elbow, 0, 10)) return BAD;
        int was = now.eye() * 11 + now.elbow();
        becomes(now.withMinds(eye, elbow));
        return was;
    }

    int speeds(int pace) {
        if (!in(pace, 1, 60)) return BAD;
        int was = now.pace();
        becomes(now.withPace(pace));
        return was;
    }

    int undo() {
        if (past.isEmpty()) return STATE;
        now = past.removeLast();
        return past.size();
    }

    int now(int what) {
        if (!in(what, 0, 7)) return BAD;
        int bits = 0;
        for (int p = 0; p < now.size(); p++) if (now.feet()[p] == 1) bits += (int) Math.pow(2, p);
        int inLine = (int) Arrays.stream(now.inches()).filter(i -> i == 0).count();
        return List.of(now.paces(), now.pace(), now.eye(), now.elbow(), bulge(now), bulgePlace(now), bits, inLine).get(what);
    }

    // ---- what comes

    private Snap after(Snap s, int n, int post) {
        for (int i = 0; i < n; i++) s = paced(s, post);
        return s;
    }

    private int till(Snap s, int most, Predicate<Snap> so) {
        for (int k = 0; k <= most; k++) {
            if (so.test(s)) return k;
            s = paced(s, -1);
        }
        return NONE;
    }

    private int dressedBy(Snap s) {
        return till(s, 300, t -> Arrays.stream(t.inches()).allMatch(i -> i == 0));
    }

    int dressed() {
        return dressedBy(now);
    }

    int looks(int n, int p) {
        if (!in(n, 0, 60) || p != -1 && noPlace(p)) return BAD;
        Snap then = after(now, n, -1);
        return p == -1 ? bulge(then) : then.inches()[p];
    }

    int mix(int what) {
        if (!in(what, 0, 1)) return BAD;
        int both = NONE;
        int paces = NONE;
        for (int i = 0; i < 121; i++) {
            int till = dressedBy(now.withMinds(i / 11, i % 11));
            if (till != NONE && (paces == NONE || till < paces)) {
                paces = till;
                both = i;
            }
        }
        return what == 0 ? both : paces;
    }

    int fastest() {
        int greatest = 0;
        for (int pace = 1; pace <= 60; pace++) {
            boolean all = true;
            for (int p = 0; p < men.size(); p++) all &= wants(pace, p) <= men.get(now.who()[p]).leg();
            if (all) greatest = pace;
        }
        return greatest;
    }

    private static void ways(List<Integer> begun, int size, List<List<Integer>> all) {
        if (begun.size() == size) all.add(List.copyOf(begun));
        for (int m = 0; m < size; m++) {
            if (begun.contains(m)) continue;
            begun.add(m);
            ways(begun, size, all);
            begun.remove(begun.size() - 1);
        }
    }

    private int above(List<Integer> way) {
        int sum = 0;
        for (int p = 0; p < way.size(); p++) sum += Math.max(0, wants(now.pace(), p) - men.get(way.get(p)).leg());
        return sum;
    }

    private int apart(List<Integer> way) {
        int sum = 0;
        for (int p = 1; p < way.size(); p++) sum += Math.abs(men.get(way.get(p)).height() - men.get(way.get(p - 1)).height());
        return sum;
    }

    int order(int p) {
        if (p != -1 && p != -2 && noPlace(p)) return BAD;
        List<List<Integer>> all = new ArrayList<>();
        ways(new ArrayList<>(), men.size(), all);
        List<Integer> best = all.get(0);
        for (List<Integer> way : all) {
            int less = Integer.compare(above(way) * 1000 + apart(way), above(best) * 1000 + apart(best));
            if (less < 0) best = way;
        }
        return p == -1 ? above(best) : p == -2 ? apart(best) : best.get(p);
    }

    int inStep() {
        return till(now, 20, s -> Arrays.stream(s.feet()).distinct().count() <= 1);
    }

    private boolean clearOf(int k, int n) {
        Snap s = now;
        for (int i = 0; i <= 60; i++) {
            for (int p = 0; p < s.size(); p++) {
                int want = wants(s.pace(), p);
                if (want > 0 && k * want + s.inches()[p] <= n) return false;
            }
            s = paced(s, -1);
        }
        return true;
    }

    int behind(int n) {
        if (!in(n, 0, 99)) return BAD;
        for (int k = 0; k <= 60; k++) if (clearOf(k, n)) return k;
        return NONE;
    }

    int post(int p, int n) {
        if (noPlace(p) || !in(n, 1, 20)) return BAD;
        return bulge(after(now, n, p));
    }

    int odds(int x, int k, int what) {
        if (!in(x, 0, 10) || !in(k, 0, 7) || !in(what, 0, 1)) return BAD;
        long upper = 0;
        for (int set = 0; set < 1 << men.size(); set++) {
            if (Integer.bitCount(set) > k) continue;
            long product = 1;
            for (int m = 0; m < men.size(); m++) product *= (set >> m & 1) == 1 ? x : 10 - x;
            upper += product;
        }
        BigInteger up = BigInteger.valueOf(upper);
        BigInteger low = BigInteger.TEN.pow(men.size());
        return (what == 0 ? up : low).divide(up.gcd(low)).intValueExact();
    }

    // ---- what was seen

    int saw(int p, int n, int inches) {
        if (noPlace(p) || !in(n, 0, 60) || !in(inches, -999, 999)) return BAD;
        if (seen.size() == 6) return FULL;
        seen.add(new Sight(p, n, inches));
        return seen.size();
    }

    int forget() {
        int had = seen.size();
        seen.clear();
        return had;
    }

    int whose(int what) {
        if (!in(what, 0, 2)) return BAD;
        List<int[]> guilty = new ArrayList<>();
        for (int p = 0; p < men.size(); p++) {
            for (int n = 1; n <= 40; n++) {
                Snap s = slipped(now, p, n);
                if (seen.stream().allMatch(t -> after(s, t.paces(), -1).inches()[t.place()] == t.inches())) {
                    guilty.add(new int[] {p, n});
                }
            }
        }
        if (what == 0) return guilty.size();
        if (what == 1) return guilty.isEmpty() ? NONE : guilty.get(0)[0] * 100 + guilty.get(0)[1];
        return guilty.stream().mapToInt(g -> 1 << g[0]).reduce(0, (a, b) -> a | b);
    }

    // ---- kinds, images

    int rate(int kind, int p) {
        if (noPlace(p) || !in(kind, 0, 5)) return NO;
        trace += List.of(1, 11, 101, 1011, 10101, 100001).get(kind);
        int want = wants(now.pace(), p);
        int leg = men.get(now.who()[p]).leg();
        int inches = now.inches()[p];
        return List.of(want, want + leg, want - inches, (want + leg) * 2, want - inches + bulge(now),
                want + now.feet()[p] * 9).get(kind);
    }

    int keep(int image) {
        if (!in(image, 0, 1)) return BAD;
        images[image] = new Kept(now, List.copyOf(past));
        return now.paces();
    }

    int back(int image) {
        if (!in(image, 0, 1)) return BAD;
        if (images[image] == null) return STATE;
        now = images[image].snap();
        past = new ArrayDeque<>(images[image].past());
        return now.paces();
    }

    int count(int what) {
        if (!in(what, 0, 3)) return BAD;
        return List.of(men.size(), seen.size(), past.size(), text.length()).get(what);
    }

    long trace() {
        return trace;
    }
}
