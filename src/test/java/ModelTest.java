import java.util.ArrayList;
import java.util.List;
import java.util.Random;

/** Promises 1 to 31 on runs of calls drawn by fixed seeds, each answer against that of Model. */
public final class ModelTest {
    private static final int RUNS = 1500, CALLS = 512;
    private static final Check check = new Check();

    private final Random random;
    private final RankWheels real = new RankWheels();
    private final Model model = new Model();
    private final String name;
    private int calls;

    private final boolean far;

    private ModelTest(int seed) {
        random = new Random(seed);
        far = seed % 10 == 0;
        name = "run " + seed + ", call ";
    }

    public static void main(String[] args) {
        for (int seed = 1; seed <= RUNS; seed++) {
            new ModelTest(seed).play();
        }
        check.end("ModelTest");
    }

    /** A rank that swings itself ahead of the line, till INCHES end or near it, or loses all it can. */
    private void goFar() {
        boolean ahead = random.nextInt(3) > 0;
        int number = ahead ? 3 + random.nextInt(2) : 2 + random.nextInt(6);
        int pace = ahead ? 20 + 2 * random.nextInt(6) : 40 + random.nextInt(21);
        String legs = ahead ? "60" : "1";
        tell(("m" + legs + " 1;").repeat(number) + "p" + pace + ";e10;w10;");
        same("slips(1, 10)", real.slips(1, 10), model.slips(1, 10));
        int paces = ahead ? 80 + random.nextInt(100) : 14 + random.nextInt(10);
        for (int i = 0; i < paces; i++) {
            same("wheels()", real.wheels(), model.wheels());
        }
    }

    private void play() {
        if (far) {
            goFar();
        }
        while (calls < CALLS) {
            if (calls == 0 || !far && random.nextInt(150) == 0) {
                tell(random.nextInt(5) == 0 ? spoilt(text()) : text());
            } else {
                one(random.nextInt(100));
            }
        }
    }

    private void same(String call, long got, long want) {
        calls++;
        check.due(name + calls + ": " + call, got, want);
    }

    /** Mostly between least and most, and at times a little outside. */
    private int about(int least, int most) {
        int kind = random.nextInt(30);
        if (kind == 0) return least - 1;
        if (kind == 1) return most + 1;
        if (kind == 2) return random.nextInt(10) == 0 ? random.nextInt() : most;
        if (kind == 3) return least;
        return least + random.nextInt(most - least + 1);
    }

    private int somePlace() {
        return about(0, Math.max(0, real.count(0) - 1));
    }

    private String text() {
        List<String> items = new ArrayList<>();
        int number = random.nextInt(12) == 0 ? random.nextInt(9) : 2 + random.nextInt(6);
        int legs = random.nextBoolean() ? 60 : 40;
        int shortest = random.nextBoolean() ? 1 : 30;
        for (int i = 0; i < number; i++) {
            items.add("m" + blank() + (shortest + random.nextInt(legs - shortest + 1)) + " " + (1 + random.nextInt(99)) + ";");
        }
        if (random.nextInt(3) > 0) items.add(random.nextInt(items.size() + 1), "p" + blank() + (1 + random.nextInt(60)) + ";");
        if (random.nextInt(3) > 0) items.add(random.nextInt(items.size() + 1), "e" + random.nextInt(11) + blank() + ";");
        if (random.nextInt(3) > 0) items.add(random.nextInt(items.size() + 1), blank() + "w" + random.nextInt(11) + ";" + blank());
        return String.join("", items);
    }

    private String blank() {
        return random.nextInt(4) == 0 ? " " : "";
    }

    private String spoilt(String text) {
        StringBuilder b = new StringBuilder(text);
        for (int i = random.nextInt(2); i >= 0 && b.length() > 0; i--) {
            int at = random.nextInt(b.length());
            String signs = " ;mpewx019" + (char) 200 + (char) 0 + "\n";
            char sign = signs.charAt(random.nextInt(signs.length()));
            switch (random.nextInt(4)) {
                case 0 -> b.setCharAt(at, sign);
                case 1 -> b.insert(at, sign);
                case 2 -> b.deleteCharAt(at);
                default -> b.setLength(at);
            }
        }
        return b.toString();
    }

    private void tell(String text) {
        for (int i = 0; i < text.length(); i++) {
            same("type", real.type(text.charAt(i)), model.type(text.charAt(i)));
        }
        int told = model.rank();
        same("rank() of '" + text + "'", real.rank(), told);
        same("count(3)", real.count(3), model.count(3));
        if (told < 0 && random.nextInt(3) > 0) {
            same("clear()", real.clear(), model.clear());
        }
    }

    private void one(int kind) {
        if (kind < 40) {
            deed(random.nextInt(16));
        } else if (kind < 60) {
            look(random.nextInt(100));
        } else {
            state(random.nextInt(24));
        }
    }

    private void deed(int kind) {
        int a = somePlace();
        int b = somePlace();
        switch (kind) {
            case 0, 1 -> {
                int n = about(1, 99);
                same("slips(" + a + ", " + n + ")", real.slips(a, n), model.slips(a, n));
            }
            case 2, 3 -> same("hops(" + a + ")", real.hops(a), model.hops(a));
            case 4 -> same("swaps(" + a + ", " + b + ")", real.swaps(a, b), model.swaps(a, b));
            case 5 -> {
                int eye = about(0, 10);
                int elbow = about(0, 10);
                same("minds(" + eye + ", " + elbow + ")", real.minds(eye, elbow), model.minds(eye, elbow));
            }
            case 6 -> {
                int pace = about(1, 60);
                same("speeds(" + pace + ")", real.speeds(pace), model.speeds(pace));
            }
            case 7, 8 -> same("undo()", real.undo(), model.undo());
            case 9 -> {
                int image = about(0, 1);
                same("keep(" + image + ")", real.keep(image), model.keep(image));
            }
            case 10 -> {
                int image = about(0, 1);
                same("back(" + image + ")", real.back(image), model.back(image));
            }
            default -> same("wheels()", real.wheels(), model.wheels());
        }
    }

    private void look(int kind) {
        int p = somePlace();
        if (kind < 3) {
            int what = about(0, 1);
            same("mix(" + what + ")", real.mix(what), model.mix(what));
        } else if (kind < 6) {
            int place = random.nextInt(3) == 0 ? -random.nextInt(4) : p;
            same("order(" + place + ")", real.order(place), model.order(place));
        } else if (kind < 10) {
            int what = about(0, 2);
            same("whose(" + what + ")", real.whose(what), model.whose(what));
        } else if (kind < 20) {
            same("dressed()", real.dressed(), model.dressed());
        } else if (kind < 35) {
            int n = about(0, 60);
            same("looks(" + n + ", " + p + ")", real.looks(n, p), model.looks(n, p));
            same("looks(" + n + ", -1)", real.looks(n, -1), model.looks(n, -1));
        } else if (kind < 45) {
            same("fastest()", real.fastest(), model.fastest());
        } else if (kind < 55) {
            same("inStep()", real.inStep(), model.inStep());
        } else if (kind < 65) {
            int n = about(0, 99);
            same("behind(" + n + ")", real.behind(n), model.behind(n));
        } else if (kind < 75) {
            int n = about(1, 20);
            same("post(" + p + ", " + n + ")", real.post(p, n), model.post(p, n));
        } else if (kind < 85) {
            int x = about(0, 10);
            int k = about(0, 7);
            int what = about(0, 1);
            same("odds(" + x + ", " + k + ", " + what + ")", real.odds(x, k, what), model.odds(x, k, what));
        } else {
            seeing(p);
        }
    }

    /** What is seen is mostly what comes if somebody slips now, so that it is somebody's. */
    private void seeing(int p) {
        if (random.nextInt(3) == 0) {
            same("forget()", real.forget(), model.forget());
        }
        int n = about(0, random.nextInt(3) == 0 ? 60 : 5);
        int inches = about(-999, 999);
        int guilty = somePlace();
        int by = about(1, 40);
        if (random.nextInt(4) > 0) {
            same("slips(" + guilty + ", " + by + ")", real.slips(guilty, by), model.slips(guilty, by));
            inches = model.looks(n, p);
            same("undo()", real.undo(), model.undo());
        }
        same("saw(" + p + ", " + n + ", " + inches + ")", real.saw(p, n, inches), model.saw(p, n, inches));
        if (random.nextInt(4) == 0) {
            int what = about(0, 2);
            same("whose(" + what + ")", real.whose(what), model.whose(what));
        }
    }

    private void state(int kind) {
        int p = somePlace();
        if (kind < 8) {
            int what = about(0, 3);
            same("place(" + p + ", " + what + ")", real.place(p, what), model.place(p, what));
        } else if (kind < 11) {
            int what = about(0, 2);
            same("man(" + p + ", " + what + ")", real.man(p, what), model.man(p, what));
        } else if (kind < 17) {
            int what = about(0, 7);
            same("now(" + what + ")", real.now(what), model.now(what));
        } else if (kind < 20) {
            int what = about(0, 3);
            same("count(" + what + ")", real.count(what), model.count(what));
        } else if (kind < 23) {
            int which = about(0, 5);
            same("rate(" + which + ", " + p + ")", real.rate(which, p), model.rate(which, p));
            same("trace()", real.trace(), model.trace());
        } else {
            int c = about(0, 255);
            same("type(" + c + ")", real.type(c), model.type(c));
            same("clear()", real.clear(), model.clear());
        }
    }
}
