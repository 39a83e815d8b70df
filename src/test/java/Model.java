import java.util.ArrayList;
import java.util.Arrays;
import java.util.List;
import java.util.TreeSet;

/**
 * The document once more, as plainly as can be: a day at a time, a set at a time, nothing kept.
 * ModelTest holds RanOut against it. It shares no code with RanOut, so that a slip in one shows.
 */
final class Model {
    static final int NONE = -1;
    static final String[] SORTS = {"child", "abroad", "war", "talks", "ask", "pay", "letter", "suit"};

    /** A condition, as a tree. */
    interface Node {
        int value(Claim c, int day, int ran);
    }

    static final class Line {
        String kind;
        int days;
        String start;
        int sort;
        Node when;

        boolean so(Claim c, int day, int ran) {
            return when == null || when.value(c, day, ran) != 0;
        }
    }

    static final class Fault extends RuntimeException {
        final int kind;
        final int place;

        Fault(int kind, int place) {
            this.kind = kind;
            this.place = place;
        }
    }

    static final class Fact {
        int sort;
        int from;
        int to;
        int doubt;

        Fact(int sort, int from, int to) {
            this.sort = sort;
            this.from = from;
            this.to = to;
        }

        Fact copy() {
            Fact f = new Fact(sort, from, to);
            f.doubt = doubt;
            return f;
        }
    }

    static final class Claim {
        int place;
        int kind;
        int sum;
        int done;
        int known;
        int due;
        boolean wanted;
        List<Fact> facts = new ArrayList<>();

        int day(String start) {
            return start.equals("done") ? done : start.equals("known") ? known : due;
        }

        Claim copy() {
            Claim c = new Claim();
            c.place = place;
            c.kind = kind;
            c.sum = sum;
            c.done = done;
            c.known = known;
            c.due = due;
            c.wanted = wanted;
            for (Fact f : facts) {
                c.facts.add(f.copy());
            }
            return c;
        }
    }

    record Change(int day, int law, boolean all) { }

    record Act(int sort, int day, int cost, List<Integer> claims) { }

    static final class State {
        int today;
        TreeSet<Integer> holidays = new TreeSet<>();
        int[] base = new int[6];
        List<List<Change>> changes = new ArrayList<>();
        List<List<Line>> laws = new ArrayList<>();
        List<Claim> claims = new ArrayList<>();
        Act[] acts = new Act[6];

        State() {
            for (int i = 0; i < 6; i++) {
                changes.add(new ArrayList<>());
            }
            for (int i = 0; i < 8; i++) {
                laws.add(new ArrayList<>());
            }
        }

        State copy() {
            State s = new State();
            s.today = today;
            s.holidays = new TreeSet<>(holidays);
            s.base = base.clone();
            s.acts = acts.clone();
            for (int i = 0; i < 6; i++) {
                s.changes.set(i, new ArrayList<>(changes.get(i)));
            }
            for (int i = 0; i < 8; i++) {
                s.laws.set(i, laws.get(i));
            }
            for (Claim c : claims) {
                s.claims.add(c.copy());
            }
            return s;
        }
    }

    State s = new State();
    State image;
    byte[] tape = new byte[0];
    int fault;
    int faultPlace = NONE;

    // ---- the language, by descent ----

    static final class Parser {
        static final List<String> KEYWORDS = Arrays.asList(("term long stop renew roll from when days months years done known due "
            + "child abroad war talks ask pay letter suit or and not kind sum place year ran").split(" "));
        final String text;
        final List<String> tokens = new ArrayList<>();
        final List<Integer> places = new ArrayList<>();
        int i;
        int open;

        Parser(byte[] tape) {
            StringBuilder b = new StringBuilder();
            for (byte x : tape) {
                b.append((char) (x & 255));
            }
            text = b.toString();
            java.util.regex.Matcher m = java.util.regex.Pattern.compile("[A-Za-z]+|[0-9]+|[^ \n]", java.util.regex.Pattern.DOTALL).matcher(text);
            while (m.find()) {
                tokens.add(m.group());
                places.add(m.start());
            }
        }

        String now() {
            return i < tokens.size() ? tokens.get(i) : "";
        }

        int at() {
            return i < tokens.size() ? places.get(i) : text.length();
        }

        boolean isNumber() {
            return now().matches("[0-9]{1,4}");
        }

        Fault wrong() {
            return new Fault(1, at());
        }

        String take(String... which) {
            for (String w : which) {
                if (now().equals(w)) {
                    i++;
                    return w;
                }
            }
            throw wrong();
        }

        List<Line> lines() {
            List<Line> lines = new ArrayList<>();
            while (i < tokens.size()) {
                int place = at();
                Line line = new Line();
                line.kind = take("term", "long", "stop", "renew", "roll");
                if (lines.size() == 16) {
                    throw new Fault(3, place);
                }
                if (line.kind.equals("term") || line.kind.equals("long")) {
                    line.days = number(true);
                    String unit = take("days", "months", "years");
                    line.days *= unit.equals("days") ? 1 : unit.equals("months") ? 30 : 365;
                    take("from");
                    line.start = take("done", "known", "due");
                } else if (!line.kind.equals("roll")) {
                    line.sort = Arrays.asList(SORTS).indexOf(take(SORTS));
                }
                if (!line.kind.equals("roll") && now().equals("when")) {
                    i++;
                    line.when = either();
                }
                take(";");
                lines.add(line);
            }
            return lines;
        }

        int number(boolean notZero) {
            if (!isNumber()) {
                throw wrong();
            }
            int n = Integer.parseInt(now());
            if (notZero && n == 0) {
                throw new Fault(2, at());
            }
            i++;
            return n;
        }

        Node either() {
            Node a = both();
            while (now().equals("or")) {
                i++;
                Node l = a;
                Node r = both();
                a = (c, d, ran) -> l.value(c, d, ran) != 0 || r.value(c, d, ran) != 0 ? 1 : 0;
            }
            return a;
        }

        Node both() {
            Node a = condition();
            while (now().equals("and")) {
                i++;
                Node l = a;
                Node r = condition();
                a = (c, d, ran) -> l.value(c, d, ran) != 0 && r.value(c, d, ran) != 0 ? 1 : 0;
            }
            return a;
        }

        Node condition() {
            if (now().equals("not") || now().equals("(")) {
                if (open == 8) {
                    throw new Fault(3, at());
                }
                open++;
                Node n;
                if (take("not", "(").equals("not")) {
                    Node inner = condition();
                    n = (c, d, ran) -> inner.value(c, d, ran) != 0 ? 0 : 1;
                } else {
                    n = either();
                    take(")");
                }
                open--;
                return n;
            }
            Node l = sum();
            String sign = take("<", "=", ">");
            Node r = sum();
            return (c, d, ran) -> {
                int x = l.value(c, d, ran);
                int y = r.value(c, d, ran);
                return (sign.equals("<") ? x < y : sign.equals("=") ? x == y : x > y) ? 1 : 0;
            };
        }

        Node sum() {
            Node a = product();
            while (now().equals("+") || now().equals("-")) {
                boolean plus = take("+", "-").equals("+");
                Node l = a;
                Node r = product();
                a = (c, d, ran) -> plus ? l.value(c, d, ran) + r.value(c, d, ran) : l.value(c, d, ran) - r.value(c, d, ran);
            }
            return a;
        }

        Node product() {
            Node a = quantity();
            while (now().equals("*") || now().equals("/")) {
                Node l = a;
                if (take("*", "/").equals("*")) {
                    Node r = quantity();
                    a = (c, d, ran) -> l.value(c, d, ran) * r.value(c, d, ran);
                } else {
                    int by = number(true);
                    a = (c, d, ran) -> l.value(c, d, ran) / by;
                }
            }
            return a;
        }

        Node quantity() {
            if (isNumber()) {
                int n = number(false);
                return (c, d, ran) -> n;
            }
            switch (take("kind", "sum", "place", "year", "ran")) {
                case "kind": return (c, d, ran) -> c.kind;
                case "sum": return (c, d, ran) -> c.sum;
                case "place": return (c, d, ran) -> c.place;
                case "year": return (c, d, ran) -> d / 365;
                default: return (c, d, ran) -> ran;
            }
        }
    }

    // ---- the clock ----

    static final class Run {
        int last = NONE; // as last() answers
        int stepRan;
        int stepTerm;
        int stepLaw;
        int stepHow;
    }

    int lawOf(State st, Claim c, int d) {
        int law = st.base[c.place];
        for (Change ch : st.changes.get(c.place)) {
            if (ch.day <= d && (ch.all || c.done >= ch.day)) {
                law = ch.law;
            }
        }
        return law;
    }

    Line termOf(List<Line> law, Claim c, int d, int ran) {
        for (Line l : law) {
            if (l.kind.equals("term") && l.so(c, d, ran)) {
                return l;
            }
        }
        return null;
    }

    boolean off(State st, int d) {
        return d % 7 == 5 || d % 7 == 6 || st.holidays.contains(d);
    }

    /** Runs the claim's clock with these facts; what stands on the day asked is noted. */
    Run run(State st, Claim c, List<Fact> facts, int asked) {
        Run r = new Run();
        int ran = 0;
        for (int d = 0; d < 5000; d++) {
            int ahead = ran;
            int lawNumber = lawOf(st, c, d);
            List<Line> law = st.laws.get(lawNumber);
            Line term = termOf(law, c, d, ahead);
            int how = 0;
            boolean over = false;
            if (d >= c.done) {
                if (any(facts, f -> f.sort == 7, d)) {
                    how = 6;
                    over = true;
                    r.last = NONE - 1;
                } else {
                    if (has(law, "renew", c, d, ahead, facts, true)) {
                        ran = 0;
                        how = 3;
                    } else if (term != null && d > c.day(term.start)) {
                        if (has(law, "stop", c, d, ahead, facts, false)) {
                            how = 2;
                        } else {
                            how = 1;
                            ran++;
                        }
                    }
                    boolean ends = term != null && ran >= term.days;
                    boolean rolls = false;
                    for (Line l : law) {
                        if (l.kind.equals("long") && d >= c.day(l.start) + l.days && l.so(c, d, ahead)) {
                            ends = true;
                        }
                        rolls |= l.kind.equals("roll");
                    }
                    if (ends && rolls && off(st, d)) {
                        how = 7;
                    } else if (ends) {
                        how = 4;
                        over = true;
                        r.last = d;
                    }
                }
            }
            if (d == asked || over && asked > d) {
                r.stepRan = ran;
                r.stepTerm = term == null ? NONE : term.days;
                r.stepLaw = lawNumber;
                r.stepHow = d == asked || how == 6 ? how : 5;
            }
            if (over) {
                return r;
            }
        }
        return r;
    }

    interface Which {
        boolean is(Fact f);
    }

    static boolean any(List<Fact> facts, Which which, int d) {
        for (Fact f : facts) {
            if (f.from <= d && d <= f.to && which.is(f)) {
                return true;
            }
        }
        return false;
    }

    static boolean has(List<Line> law, String kind, Claim c, int d, int ran, List<Fact> facts, boolean onDayAlone) {
        return any(facts, f -> {
            for (Line l : law) {
                if (l.kind.equals(kind) && l.sort == f.sort && l.so(c, d, ran) && (!onDayAlone || f.sort >= 4)) {
                    return true;
                }
            }
            return false;
        }, d);
    }

    int lastOf(State st, Claim c, List<Fact> facts) {
        return run(st, c, facts, NONE).last;
    }

    static boolean alive(int last, int day) {
        return last == NONE || last == NONE - 1 || last >= day;
    }

    // ---- the face ----

    boolean today(int day) {
        if (day < s.today || day < 0 || day > 2999) {
            return false;
        }
        s.today = day;
        for (int k = 0; k < 6; k++) {
            if (s.acts[k] != null && s.acts[k].day < day) {
                s.acts[k] = null;
            }
        }
        return true;
    }

    boolean holiday(int day) {
        if (day < 0 || day > 4999 || !s.holidays.contains(day) && s.holidays.size() == 20) {
            return false;
        }
        s.holidays.add(day);
        return true;
    }

    boolean place(int p, int law) {
        if (p < 0 || p > 5 || law < 0 || law > 7) {
            return false;
        }
        s.base[p] = law;
        return true;
    }

    boolean change(int p, int day, int law, boolean all) {
        if (p < 0 || p > 5 || law < 0 || law > 7 || day < 1 || day > 2999) {
            return false;
        }
        List<Change> l = s.changes.get(p);
        if (l.size() == 4 || !l.isEmpty() && l.get(l.size() - 1).day >= day) {
            return false;
        }
        l.add(new Change(day, law, all));
        return true;
    }

    int feed(int... numbers) {
        if (tape.length + 20 > 400) {
            return NONE;
        }
        java.nio.ByteBuffer b = java.nio.ByteBuffer.allocate(tape.length + 20);
        b.put(tape);
        for (int n : numbers) {
            b.putInt(n);
        }
        tape = b.array();
        return tape.length;
    }

    boolean end(int n) {
        if (n < 0 || n > tape.length) {
            return false;
        }
        tape = Arrays.copyOf(tape, n);
        return true;
    }

    int text(int k) {
        fault = 0;
        faultPlace = NONE;
        byte[] bytes = tape;
        tape = new byte[0];
        if (k < 0 || k > 7) {
            return NONE;
        }
        try {
            s.laws.set(k, new Parser(bytes).lines());
        } catch (Fault f) {
            fault = f.kind;
            faultPlace = f.place;
            return NONE;
        }
        return s.laws.get(k).size();
    }

    int fault(int what) {
        return what == 0 ? fault : what == 1 ? faultPlace : NONE;
    }

    int claim(int place, int kind, int sum, int done, int known, int due) {
        boolean can = place >= 0 && place < 6 && kind >= 0 && kind < 10 && sum >= 0 && sum < 10000
            && done >= 0 && known >= done && due >= done && known < 3000 && due < 3000 && s.claims.size() < 60;
        if (!can) {
            return NONE;
        }
        Claim c = new Claim();
        c.place = place;
        c.kind = kind;
        c.sum = sum;
        c.done = done;
        c.known = known;
        c.due = due;
        s.claims.add(c);
        return s.claims.size() - 1;
    }

    Claim get(int claim) {
        return claim >= 0 && claim < s.claims.size() ? s.claims.get(claim) : null;
    }

    int fact(int claim, int sort, int from, int to) {
        Claim c = get(claim);
        if (c == null || sort < 0 || sort > 7 || from < 0 || to < from || to > 2999 || sort > 3 && from != to || c.facts.size() == 12) {
            return NONE;
        }
        c.facts.add(new Fact(sort, from, to));
        return c.facts.size() - 1;
    }

    boolean doubt(int claim, int fact, int n) {
        Claim c = get(claim);
        if (c == null || fact < 0 || fact >= c.facts.size() || n < 0 || n > 6) {
            return false;
        }
        Fact f = c.facts.get(fact);
        int was = f.doubt;
        f.doubt = n;
        int all = 0;
        int contested = 0;
        int doubted = 0;
        for (Claim o : s.claims) {
            for (Fact g : o.facts) {
                all += g.doubt == 6 ? 1 : 0;
                contested += o == c && g.doubt == 6 ? 1 : 0;
                doubted += o == c && g.doubt > 0 && g.doubt < 6 ? 1 : 0;
            }
        }
        if (all > 6 || contested > 2 || doubted > 2) {
            f.doubt = was;
            return false;
        }
        return true;
    }

    int last(int claim) {
        Claim c = get(claim);
        return c == null ? NONE - 2 : lastOf(s, c, c.facts);
    }

    int step(int claim, int day, int what) {
        Claim c = get(claim);
        if (c == null || day < 0 || day > 4999 || what < 0 || what > 3) {
            return NONE - 9;
        }
        Run r = run(s, c, c.facts, day);
        return what == 0 ? r.stepRan : what == 1 ? r.stepTerm : what == 2 ? r.stepLaw : r.stepHow;
    }

    static int rank(int last) {
        return last == NONE ? 5000 : last == NONE - 1 ? 5001 : last;
    }

    void ways(Claim c, int from, List<Fact> chosen, List<Integer> lasts) {
        if (from == c.facts.size()) {
            lasts.add(rank(lastOf(s, c, chosen)));
            return;
        }
        Fact f = c.facts.get(from);
        int most = f.doubt == 6 ? 0 : f.doubt;
        for (int n = 0; n <= most; n++) {
            List<Fact> more = new ArrayList<>(chosen);
            more.add(new Fact(f.sort, f.from + n, f.to + n));
            ways(c, from + 1, more, lasts);
        }
        if (f.doubt == 6) {
            ways(c, from + 1, chosen, lasts);
        }
    }

    int span(int claim, int what) {
        Claim c = get(claim);
        if (c == null || what < 0 || what > 2) {
            return NONE - 9;
        }
        if (what == 2) {
            int set = 0;
            for (int i = 0; i < c.facts.size(); i++) {
                if (c.facts.get(i).doubt == 6) {
                    List<Fact> others = new ArrayList<>(c.facts);
                    others.remove(i);
                    set |= lastOf(s, c, others) != lastOf(s, c, c.facts) ? 1 << i : 0;
                }
            }
            return set;
        }
        List<Integer> lasts = new ArrayList<>();
        ways(c, 0, new ArrayList<>(), lasts);
        int r = what == 0 ? java.util.Collections.min(lasts) : java.util.Collections.max(lasts);
        return r == 5000 ? NONE : r == 5001 ? NONE - 1 : r;
    }

    int changed(int place, int what) {
        if (place < 0 || place > 5 || what < 0 || what > 1 || s.changes.get(place).isEmpty()) {
            return NONE;
        }
        State without = s.copy();
        without.changes.get(place).remove(without.changes.get(place).size() - 1);
        int n = 0;
        int first = NONE;
        for (int i = 0; i < s.claims.size(); i++) {
            Claim c = s.claims.get(i);
            if (c.place == place && lastOf(s, c, c.facts) != lastOf(without, c, c.facts)) {
                first = n++ == 0 ? i : first;
            }
        }
        return what == 0 ? n : first;
    }

    boolean act(int k, int sort, int day, int cost, int a, int b, int c) {
        if (k < 0 || k > 5) {
            return false;
        }
        if (sort == NONE) {
            s.acts[k] = null;
            return true;
        }
        if (sort < 4 || sort > 7 || day < s.today || day > 2999 || cost < 0 || cost > 999) {
            return false;
        }
        List<Integer> claims = new ArrayList<>();
        for (int x : new int[] {a, b, c}) {
            if (x == NONE && !claims.isEmpty()) {
                continue;
            }
            if (get(x) == null || claims.contains(x)) {
                return false;
            }
            claims.add(x);
        }
        s.acts[k] = new Act(sort, day, cost, claims);
        return true;
    }

    boolean want(int claim, boolean is) {
        Claim c = get(claim);
        if (c == null) {
            return false;
        }
        c.wanted = is;
        return true;
    }

    boolean day(int day) {
        return day >= s.today && day <= s.today + 400;
    }

    /** alive[set][claim], for sets of told acts; null for others. */
    boolean[][] table(State st, int day, boolean wantedAlone) {
        boolean[][] t = new boolean[64][];
        for (int set = 0; set < 64; set++) {
            boolean told = true;
            for (int k = 0; k < 6; k++) {
                told &= (set >> k & 1) == 0 || st.acts[k] != null;
            }
            if (!told) {
                continue;
            }
            t[set] = new boolean[st.claims.size()];
            for (int i = 0; i < st.claims.size(); i++) {
                Claim c = st.claims.get(i);
                if (wantedAlone && !c.wanted) {
                    continue;
                }
                List<Fact> facts = new ArrayList<>(c.facts);
                for (int k = 0; k < 6; k++) {
                    if ((set >> k & 1) != 0 && st.acts[k].claims.contains(i)) {
                        facts.add(new Fact(st.acts[k].sort, st.acts[k].day, st.acts[k].day));
                    }
                }
                t[set][i] = set != 0 && facts.size() == c.facts.size() ? t[0][i] : alive(lastOf(st, c, facts), day);
            }
        }
        return t;
    }

    static int cost(State st, int set) {
        int cost = 0;
        for (int k = 0; k < 6; k++) {
            cost += (set >> k & 1) != 0 ? st.acts[k].cost : 0;
        }
        return cost;
    }

    int cheapestSet(State st, int day) {
        boolean[][] t = table(st, day, true);
        int best = NONE;
        for (int set = 0; set < 64; set++) {
            if (t[set] == null) {
                continue;
            }
            boolean all = true;
            for (int i = 0; i < st.claims.size(); i++) {
                all &= !st.claims.get(i).wanted || t[set][i];
            }
            if (all && (best == NONE || cost(st, set) * 100 + Integer.bitCount(set) < cost(st, best) * 100 + Integer.bitCount(best))) {
                best = set;
            }
        }
        return best;
    }

    int cheapest(int day, int what) {
        if (!day(day) || what < 0 || what > 1) {
            return NONE;
        }
        int set = cheapestSet(s, day);
        return set == NONE || what == 0 ? set : cost(s, set);
    }

    int worth(int day, int cost, int what) {
        if (!day(day) || cost < 0 || cost > 9999 || what < 0 || what > 2) {
            return NONE;
        }
        boolean[][] t = table(s, day, false);
        int best = NONE;
        int bestSum = 0;
        for (int set = 0; set < 64; set++) {
            if (t[set] == null || cost(s, set) > cost) {
                continue;
            }
            int sum = 0;
            for (int i = 0; i < s.claims.size(); i++) {
                sum += t[set][i] ? s.claims.get(i).sum : 0;
            }
            if (best == NONE || sum > bestSum || sum == bestSum && cost(s, set) < cost(s, best)) {
                best = set;
                bestSum = sum;
            }
        }
        return what == 0 ? best : what == 1 ? bestSum : cost(s, best);
    }

    static int count(boolean[] row) {
        int n = 0;
        for (boolean b : row) {
            n += b ? 1 : 0;
        }
        return n;
    }

    int one(int day, int what) {
        if (!day(day) || what < 0 || what > 1) {
            return NONE;
        }
        boolean[][] t = table(s, day, false);
        int best = NONE;
        int most = 0;
        for (int k = 0; k < 6; k++) {
            if (t[1 << k] != null && count(t[1 << k]) - count(t[0]) > most) {
                most = count(t[1 << k]) - count(t[0]);
                best = k;
            }
        }
        return what == 0 ? best : most;
    }

    int pay(int claim) {
        Claim c = get(claim);
        if (c == null) {
            return NONE - 99999;
        }
        int was = lastOf(s, c, c.facts);
        if (was < 0 || !alive(was, s.today)) {
            return 0;
        }
        List<Fact> more = new ArrayList<>(c.facts);
        more.add(new Fact(5, s.today, s.today));
        int is = lastOf(s, c, more);
        return is < 0 ? 99999 : is - was;
    }

    int contest(int day, int k, int what) {
        if (!day(day) || k < 0 || k > 2 || what != 0 && what < 10) {
            return NONE;
        }
        List<Integer> contested = new ArrayList<>();
        for (int c = 0; c < s.claims.size(); c++) {
            for (int f = 0; f < s.claims.get(c).facts.size(); f++) {
                if (s.claims.get(c).facts.get(f).doubt == 6) {
                    contested.add(12 * c + f);
                }
            }
        }
        List<List<Integer>> sets = new ArrayList<>();
        sets.add(List.of());
        for (int a : contested) {
            sets.add(List.of(a));
        }
        for (int a : contested) {
            for (int b : contested) {
                if (a < b) {
                    sets.add(List.of(a, b));
                }
            }
        }
        List<Integer> best = null;
        int most = NONE;
        for (List<Integer> set : sets) {
            if (set.size() > k) {
                continue;
            }
            State st = s.copy();
            for (int i = set.size() - 1; i >= 0; i--) {
                st.claims.get(set.get(i) / 12).facts.remove(set.get(i) % 12);
            }
            int acts = cheapestSet(st, day);
            int cost = acts == NONE ? 9999 : cost(st, acts);
            if (cost > most) {
                most = cost;
                best = set;
            }
        }
        return what == 0 ? most : what - 10 < best.size() ? best.get(what - 10) : NONE;
    }

    int beside(int a, int b, int what) {
        if (a < 0 || a > 7 || b < 0 || b > 7 || what < 0 || what > 1) {
            return NONE;
        }
        State st = s.copy();
        st.laws.set(b, st.laws.get(a));
        int n = 0;
        for (Claim c : s.claims) {
            boolean was = alive(lastOf(s, c, c.facts), s.today);
            boolean is = alive(lastOf(st, c, c.facts), s.today);
            n += what == 0 && was && !is || what == 1 && !was && is ? 1 : 0;
        }
        return n;
    }

    boolean image(boolean taken) {
        if (taken) {
            image = s.copy();
            return true;
        }
        if (image == null) {
            return false;
        }
        s = image.copy();
        return true;
    }

    int look(int what) {
        int n = 0;
        switch (what) {
            case 0: return s.today;
            case 1: return s.claims.size();
            case 2: return s.holidays.size();
            case 3:
            case 4:
            case 5:
            case 6:
                for (Claim c : s.claims) {
                    int last = what == 6 ? 0 : lastOf(s, c, c.facts);
                    boolean alive = alive(last, s.today);
                    n += what == 3 && alive || what == 5 && last == NONE - 1 || what == 6 && c.wanted ? 1 : 0;
                    n += what == 4 && alive ? c.sum : 0;
                }
                return n;
            case 7:
                for (Act a : s.acts) {
                    n += a != null ? 1 : 0;
                }
                return n;
            default:
                if (what >= 10 && what < 18) {
                    return s.laws.get(what - 10).size();
                }
                if (what >= 20 && what < 26) {
                    return s.changes.get(what - 20).size();
                }
                return what >= 30 && get(what - 30) != null ? get(what - 30).facts.size() : NONE;
        }
    }
}
