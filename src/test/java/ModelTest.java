import java.util.Random;

/** Random runs of calls on RanOut and on Model, which must answer alike; the seeds are fixed. */
public final class ModelTest {
    private static final String[] KEYWORDS = Model.Parser.KEYWORDS.toArray(new String[0]);
    private static int wrong = 0;

    private final Random random;
    private final int seed;
    private final RanOut real = new RanOut();
    private final Model model = new Model();
    private int calls = 0;
    private int near;
    // Few claims with laws that let acts and contested facts decide: else plans are all alike.
    private final boolean tight;

    private ModelTest(int seed) {
        this.seed = seed;
        random = new Random(seed);
        tight = seed % 2 == 1;
        near = tight || random.nextBoolean() ? 60 : random.nextBoolean() ? 400 : 3000;
    }

    public static void main(String[] args) {
        int from = args.length > 1 ? Integer.parseInt(args[1]) : 0;
        int runs = args.length > 2 ? Integer.parseInt(args[2]) : 120;
        for (int seed = from; seed < from + runs && wrong < 20; seed++) {
            new ModelTest(seed).play();
        }
        System.out.println(wrong == 0 ? "RanOut and Model answer alike" : wrong + " answers are unlike");
        System.exit(wrong == 0 ? 0 : 1);
    }

    private int below(int n) {
        return random.nextInt(n);
    }

    private void same(String call, int got, int want) {
        calls++;
        if (got != want) {
            wrong++;
            System.out.println("seed " + seed + ", call " + calls + ": " + call + " answered " + got + ", the model " + want);
        }
    }

    private void same(String call, boolean got, boolean want) {
        same(call, got ? 1 : 0, want ? 1 : 0);
    }

    // ---- arguments ----

    private int number(int first, int last) {
        return below(40) == 0 ? (below(2) == 0 ? first - 1 : last + 1) : first + below(last - first + 1);
    }

    private int day() {
        return below(30) == 0 ? new int[] {-1, 0, 2999, 3000}[below(4)] : below(near);
    }

    private int claim() {
        int n = model.s.claims.size();
        return below(40) == 0 ? (below(2) == 0 ? -1 : n) : n == 0 ? 0 : below(n);
    }

    private int planned() {
        int t = model.s.today;
        return below(30) == 0 ? new int[] {t - 1, t, t + 400, t + 401}[below(4)] : t + below(Math.min(near, tight ? 50 : 400));
    }

    // ---- texts ----

    private String pick(String... of) {
        return of[below(of.length)];
    }

    private String tightLaw() {
        StringBuilder b = new StringBuilder();
        b.append("term ").append(15 + below(40)).append(" days from ").append(pick("done", "known", "due"));
        b.append(pick(";", ";", " when kind<5;term 30 days from done;", " when ran<9;term 35 days from due;"));
        b.append("renew ask;").append(pick("renew pay when ran>5;", "renew pay;", "renew pay when ran<20;", ""));
        b.append(pick("", "renew letter when kind=1 or sum>5000;")).append(pick("", "roll;"));
        b.append(pick("stop child;", "stop war when year=0;stop talks;", "stop abroad when ran>3;", ""));
        return b.append(pick("", "", "long 120 days from done;")).toString();
    }

    private String law() {
        StringBuilder b = new StringBuilder();
        int lines = below(20) == 0 ? 15 + below(4) : below(8);
        for (int i = 0; i < lines; i++) {
            switch (below(6)) {
                case 0:
                case 1: b.append(pick("term ", "term ", "long ")).append(days()).append(" from ").append(pick("done", "known", "due")); break;
                case 2: b.append(pick("term 10 days from done", "term 25 days from due", "long 2 months from known", "term 1 years from done")); break;
                case 3: b.append("stop ").append(pick(Model.SORTS)); break;
                case 4: b.append("renew ").append(pick("ask", "pay", "letter", pick(Model.SORTS))); break;
                default: b.append("roll"); break;
            }
            if (!b.toString().endsWith("roll") && below(3) == 0) {
                b.append(" when ").append(either(below(20) == 0 ? 9 : 2));
            }
            b.append(pick(";", "; ", ";\n", " ;"));
        }
        return below(4) == 0 ? spoiled(b) : b.toString();
    }

    private String days() {
        int n = below(30) == 0 ? 0 : 1 + below(Math.max(2, near / 3));
        switch (below(6)) {
            case 0: return (1 + n / 30) + pick(" months", "months");
            case 1: return (below(30) == 0 ? 0 : 1 + below(9)) + " years";
            default: return n + " days";
        }
    }

    private String either(int depth) {
        String a = both(depth);
        return below(4) == 0 ? a + " or " + both(depth) : a;
    }

    private String both(int depth) {
        String a = condition(depth);
        return below(4) == 0 ? a + " and " + condition(depth) : a;
    }

    private String condition(int depth) {
        if (depth > 0 && below(depth > 4 ? 10 : 3) != 0 == depth > 4) {
            return below(2) == 0 ? "not " + condition(depth - 1) : "(" + either(depth - 1) + ")";
        }
        return sum() + pick("<", "=", ">", " > ", " < ") + sum();
    }

    private String sum() {
        String a = product();
        return below(3) == 0 ? a + pick("+", "-", " - ") + product() : a;
    }

    private String product() {
        String a = quantity();
        switch (below(6)) {
            case 0: return a + "*" + quantity();
            case 1: return a + "/" + (below(20) == 0 ? 0 : 1 + below(99));
            case 2: return a + "*" + quantity() + "*" + quantity() + "*" + quantity() + "/" + (1 + below(9999));
            default: return a;
        }
    }

    private String quantity() {
        return below(2) == 0 ? pick("kind", "sum", "place", "year", "ran", "ran") : "" + below(pick("a", "b").equals("a") ? 12 : below(8) == 0 ? 20000 : near);
    }

    private String spoiled(StringBuilder b) {
        for (int n = 1 + below(2); n > 0; n--) {
            int at = below(b.length() + 1);
            switch (below(5)) {
                case 0: b.insert(at, pick(";", "(", ")", "not ", "0", "/0", "?", "X", "\t", "" + (char) 233, " and ", " when ", " 12345 ")); break;
                case 1: b.insert(at, " " + pick(KEYWORDS) + " "); break;
                case 2: b.setLength(at); break;
                case 3: b.delete(at, Math.min(b.length(), at + 1 + below(5))); break;
                default: if (at < b.length()) { b.setCharAt(at, (char) below(256)); } break;
            }
        }
        return b.toString();
    }

    private void tell(int k, String text) {
        String t = text.length() > 400 ? text.substring(0, 400) : text;
        for (int i = 0; i < t.length(); i += 20) {
            int[] n = new int[5];
            for (int j = 0; j < 20; j++) {
                n[j / 4] = n[j / 4] << 8 | (i + j < t.length() ? t.charAt(i + j) & 255 : 32);
            }
            same("feed", real.feed(n[0], n[1], n[2], n[3], n[4]), model.feed(n));
        }
        same("end", real.end(t.length()), model.end(t.length()));
        same("text(" + k + ") of " + text, real.text(k), model.text(k));
        same("end(1) behind text(" + k + ")", real.end(1), model.end(1));
        same("fault(0) of " + text, real.fault(0), model.fault(0));
        same("fault(1) of " + text, real.fault(1), model.fault(1));
    }

    // ---- runs ----

    private void play() {
        if (tight) {
            playTight();
            return;
        }
        for (int i = 0; i < 3; i++) {
            tell(i, law());
        }
        while (calls < 440) {
            if (below(3) == 0) {
                ask();
            } else {
                put();
            }
        }
        for (int c = 0; c < model.s.claims.size() && calls < 512; c++) {
            same("last(" + c + ")", real.last(c), model.last(c));
        }
    }

    private void playTight() {
        for (int i = 0; i < 3; i++) {
            tell(i, tightLaw());
        }
        for (int p = 0; p < 6; p++) {
            int law = below(3);
            same("place", real.place(p, law), model.place(p, law));
        }
        for (int i = 4 + below(4); i > 0; i--) {
            int done = below(30);
            int place = below(3);
            int kind = below(6);
            int sum = below(9) * 1000;
            boolean wanted = below(3) == 0;
            same("claim", real.claim(place, kind, sum, done, done + 3, done + 9), model.claim(place, kind, sum, done, done + 3, done + 9));
            same("want", real.want(model.s.claims.size() - 1, wanted), model.want(model.s.claims.size() - 1, wanted));
        }
        for (int i = 25; i > 0; i--) {
            putTightFact();
        }
        int today = 25 + below(20);
        same("today", real.today(today), model.today(today));
        while (calls < 480) {
            switch (below(14)) {
                case 0: putTightFact(); break;
                case 1: int law = below(3); int p = below(3); int day = 1 + below(90); boolean all = below(2) == 0;
                    if (below(4) == 0) { same("change", real.change(p, day, law, all), model.change(p, day, law, all)); } break;
                case 2: int next = model.s.today + below(4);
                    if (below(6) == 0) { same("today", real.today(next), model.today(next)); } break;
                case 3:
                case 4: putTightAct(); break;
                case 5: int c = claim(); boolean is = below(3) == 0;
                    same("want", real.want(c, is), model.want(c, is)); break;
                default: ask(); break;
            }
        }
    }

    private void putTightFact() {
        int c = claim();
        int sort = below(30) == 0 ? 7 : below(3) == 0 ? 4 : below(7);
        int from = 5 + below(40);
        int to = sort > 3 ? from : from + below(12);
        same("fact", real.fact(c, sort, from, to), model.fact(c, sort, from, to));
        int doubt = below(3) == 0 ? below(6) : 6;
        int fact = below(6);
        same("doubt", real.doubt(c, fact, doubt), model.doubt(c, fact, doubt));
    }

    private void putTightAct() {
        int k = below(6);
        int sort = below(9) == 0 ? 7 : 4 + below(3);
        int day = model.s.today + below(25);
        int cost = 1 + below(9);
        int a = claim();
        int b = below(2) == 0 ? -1 : claim();
        int c = below(2) == 0 ? -1 : claim();
        same("act", real.act(k, sort, day, cost, a, b, c), model.act(k, sort, day, cost, a, b, c));
    }

    private void put() {
        int a = claim();
        int b = below(2) == 0 ? -1 : claim();
        int c = below(2) == 0 ? -1 : claim();
        int d = day();
        int n = number(0, 7);
        boolean is = below(2) == 0;
        switch (below(15)) {
            case 0: d = below(4) == 0 ? model.s.today + below(9) : below(12) == 0 ? d : 0;
                same("today(" + d + ")", real.today(d), model.today(d)); break;
            case 1: d = below(9) == 0 ? 4990 + below(12) : d;
                same("holiday(" + d + ")", real.holiday(d), model.holiday(d)); break;
            case 2: same("place", real.place(n - 1, a), model.place(n - 1, a)); break;
            case 3: n = number(0, 5);
                same("change(" + n + ", " + d + ", " + c + ", " + is + ")", real.change(n, d, below2(c), is), model.change(n, d, below2(c), is)); break;
            case 4: if (below(3) == 0) { tell(number(0, below(2) == 0 ? 3 : 7), law()); } break;
            case 5:
            case 6:
            case 7: int k = number(0, 9); int sum = number(0, 9999); int known = d + below(10); int due = d + below(30) - below(20) / 19 * 5;
                n = below(2) == 0 ? 0 : number(0, 5);
                same("claim", real.claim(n, k, sum, d, known, due), model.claim(n, k, sum, d, known, due)); break;
            case 8:
            case 9:
            case 10: int to = n > 3 ? d + below(30) / 29 : d + below(40) - below(40) / 39 * 40;
                same("fact(" + a + ", " + n + ", " + d + ", " + to + ")", real.fact(a, n, d, to), model.fact(a, n, d, to)); break;
            case 11: int f = number(0, 2); n = is ? 6 : number(0, 6);
                same("doubt(" + a + ", " + f + ", " + n + ")", real.doubt(a, f, n), model.doubt(a, f, n)); break;
            case 12: int act = number(0, 5); int sort = below(8) == 0 ? -1 : number(4, 7); int cost = below(2) == 0 ? below(9) : number(0, 999);
                d = below(10) == 0 ? d : model.s.today + below(40);
                same("act", real.act(act, sort, d, cost, a, b, c), model.act(act, sort, d, cost, a, b, c)); break;
            case 13: same("want", real.want(a, is), model.want(a, is)); break;
            default: if (below(4) == 0) { is = below(3) == 0; same("image(" + is + ")", real.image(is), model.image(is)); } break;
        }
    }

    private int below2(int n) {
        return n < 0 ? 0 : n % 8;
    }

    private void ask() {
        int a = claim();
        int what = number(0, 2);
        int p = planned();
        int n = number(0, 7);
        switch (below(12)) {
            case 0: same("last(" + a + ")", real.last(a), model.last(a)); break;
            case 1:
            case 2: int d = below(20) == 0 ? number(0, 4999) : day(); what = number(0, 3);
                same("step(" + a + ", " + d + ", " + what + ")", real.step(a, d, what), model.step(a, d, what)); break;
            case 3: same("span(" + a + ", " + what + ")", real.span(a, what), model.span(a, what)); break;
            case 4: n = number(0, 5); what = number(0, 1);
                same("changed(" + n + ", " + what + ")", real.changed(n, what), model.changed(n, what)); break;
            case 5: what = number(0, 1);
                same("cheapest(" + p + ", " + what + ")", real.cheapest(p, what), model.cheapest(p, what)); break;
            case 6: int cost = below(2) == 0 ? below(20) : number(0, 9999);
                same("worth(" + p + ", " + cost + ", " + what + ")", real.worth(p, cost, what), model.worth(p, cost, what)); break;
            case 7: what = number(0, 1);
                same("one(" + p + ", " + what + ")", real.one(p, what), model.one(p, what)); break;
            case 8: same("pay(" + a + ")", real.pay(a), model.pay(a)); break;
            case 9: what = tight ? new int[] {0, 0, 10, 11, 11, 12, 1}[below(7)] : below(2) * 10 + below(3); int k = number(0, 2);
                same("contest(" + p + ", " + k + ", " + what + ")", real.contest(p, k, what), model.contest(p, k, what)); break;
            case 10: int b = number(0, 3); what = number(0, 1);
                same("beside(" + n + ", " + b + ", " + what + ")", real.beside(n, b, what), model.beside(n, b, what)); break;
            default: what = below(100) - 1;
                same("look(" + what + ")", real.look(what), model.look(what)); break;
        }
    }
}
