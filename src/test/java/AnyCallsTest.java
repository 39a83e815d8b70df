import java.util.Random;

/**
 * Runs of calls whose arguments are mostly edges, the ends of int among them, in any order: no
 * call throws, and each answers as Model does. The seeds are fixed.
 */
public final class AnyCallsTest {
    private static final int[] EDGES = {Integer.MIN_VALUE, Integer.MIN_VALUE + 1, -100000, -10, -3, -2, -1, 0, 0, 1, 1, 2, 3, 4, 5, 6, 7, 8, 9, 10, 11, 12, 13,
        19, 20, 21, 29, 30, 59, 60, 89, 90, 364, 365, 399, 400, 401, 999, 1000, 2999, 3000, 3399, 3400, 4999, 5000, 9999, 10000, 99999,
        Integer.MAX_VALUE - 400, Integer.MAX_VALUE - 1, Integer.MAX_VALUE};
    private static final String[] TEXTS = {"term 20 days from done;renew ask;stop child;roll;", "term 1 months from known when ran<9;term 9 days from due;renew pay;",
        "long 1 years from done;stop war when year=0;term 9999 years from due;", "", "roll", "term 0", "stop war when (((((((((", "term 1 days from done;renew suit;stop talks;"};
    private static int wrong = 0;

    private final Random random;
    private final RanOut real = new RanOut();
    private final Model model = new Model();

    private AnyCallsTest(int seed) {
        random = new Random(seed);
    }

    public static void main(String[] args) {
        for (int seed = 0; seed < 60 && wrong < 20; seed++) {
            AnyCallsTest run = new AnyCallsTest(seed);
            // Some of them feed a whole text, so that the object comes to fewer than 512.
            for (int call = 1; call <= 380; call++) {
                run.call(seed, call);
            }
        }
        System.out.println(wrong == 0 ? "AnyCallsTest: all calls answer" : "AnyCallsTest: " + wrong + " answers are unlike");
        System.exit(wrong == 0 ? 0 : 1);
    }

    private int edge() {
        return EDGES[random.nextInt(EDGES.length)];
    }

    /** Mostly what can be, else an edge. */
    private int of(int count) {
        return random.nextInt(8) == 0 ? edge() : random.nextInt(count);
    }

    private int claim() {
        return of(Math.max(1, model.s.claims.size()));
    }

    private int day() {
        return random.nextInt(3) == 0 ? edge() : random.nextInt(60);
    }

    private void call(int seed, int call) {
        int which = random.nextInt(30);
        int a = claim();
        int b = random.nextBoolean() ? -1 : claim();
        int c = random.nextBoolean() ? -1 : claim();
        int d = day();
        int e = random.nextInt(3) == 0 ? day() : d;
        int n = of(8);
        boolean is = random.nextBoolean();
        int got = one(which, n, d, e, a, b, c, is, true);
        int want = one(which, n, d, e, a, b, c, is, false);
        if (got != want) {
            wrong++;
            System.out.println("seed " + seed + ", call " + call + ", method " + which + ", " + n + ", " + d + ", " + e + ", " + a + ", " + b + ", " + c + ", " + is
                + " answered " + got + ", the model " + want);
        }
    }

    private static int yes(boolean is) {
        return is ? 1 : 0;
    }

    private int one(int which, int n, int d, int e, int a, int b, int c, boolean is, boolean now) {
        RanOut x = real;
        Model m = model;
        int late = d >= 0 && d < 60 ? model.s.today + d : d;
        switch (which) {
            case 0: int today = is ? d : model.s.today + 1;
                return yes(now ? x.today(today) : m.today(today));
            case 1: return yes(now ? x.holiday(d) : m.holiday(d));
            case 2: return yes(now ? x.place(n, c) : m.place(n, c));
            case 3: return yes(now ? x.change(n, e, a, is) : m.change(n, e, a, is));
            case 4: return now ? x.feed(d, e, a, b, c) : m.feed(d, e, a, b, c);
            case 5: return yes(now ? x.end(d) : m.end(d));
            case 6: return now ? x.text(n) : m.text(n);
            case 7: return now ? x.fault(n) : m.fault(n);
            case 8:
            case 9:
            case 10: return now ? x.claim(n % 6, a, is ? d : e, d, e, d) : m.claim(n % 6, a, is ? d : e, d, e, d);
            case 11:
            case 12:
            case 13: return now ? x.fact(a, n, d, e) : m.fact(a, n, d, e);
            case 14: return yes(now ? x.doubt(a, is ? 0 : n, n) : m.doubt(a, is ? 0 : n, n));
            case 15: return now ? x.last(a) : m.last(a);
            case 16: return now ? x.step(a, d, n) : m.step(a, d, n);
            case 17: return now ? x.span(a, n) : m.span(a, n);
            case 18: return now ? x.changed(n, is ? 0 : a) : m.changed(n, is ? 0 : a);
            case 19: return yes(now ? x.act(n, 4 + n % 5, late, e, a, b, c) : m.act(n, 4 + n % 5, late, e, a, b, c));
            case 20: return yes(now ? x.want(a, is) : m.want(a, is));
            case 21: return now ? x.cheapest(late, is ? 1 : n) : m.cheapest(late, is ? 1 : n);
            case 22: return now ? x.worth(late, e, is ? 1 : n) : m.worth(late, e, is ? 1 : n);
            case 23: return now ? x.one(late, is ? 1 : n) : m.one(late, is ? 1 : n);
            case 24: return now ? x.pay(a) : m.pay(a);
            case 25: return now ? x.contest(late, 2 - n % 3, is ? 0 : n + 10) : m.contest(late, 2 - n % 3, is ? 0 : n + 10);
            case 26: return now ? x.beside(n, c, is ? 0 : a) : m.beside(n, c, is ? 0 : a);
            case 27: return yes(now ? x.image(is) : m.image(is));
            case 28: return now ? x.look(d) : m.look(d);
            default: return now ? tell(n) : telling;
        }
    }

    private int telling;

    /** Feeds the same whole text to both; answers what RanOut does, and notes what Model does. */
    private int tell(int n) {
        String text = TEXTS[(n & Integer.MAX_VALUE) % TEXTS.length];
        for (int i = 0; i < text.length(); i += 20) {
            int[] five = new int[5];
            for (int j = 0; j < 20; j++) {
                five[j / 4] = five[j / 4] << 8 | (i + j < text.length() ? text.charAt(i + j) : ' ');
            }
            real.feed(five[0], five[1], five[2], five[3], five[4]);
            model.feed(five);
        }
        int law = n & 1;
        telling = model.text(law) * 1000 + model.fault(0) * 500 + model.fault(1);
        return real.text(law) * 1000 + real.fault(0) * 500 + real.fault(1);
    }
}
