import java.util.Arrays;

/**
 * Claims that die behind a term which laws tell as texts: their last days, what keeps them, and
 * what a change of law does to them.
 *
 * <p>Rows are made in constructors and used again, since all calls of a run share one room; later
 * on only text() makes objects (a law's lines, which never change) and the first image(true).
 */
public final class RanOut {
    /** None. */
    public static final int NONE = -1;

    private static final int KEPT = NONE - 1;
    private static final int NO_SUCH_CLAIM = NONE - 2;
    private static final int CANNOT_BE = NONE - 9;
    private static final int NO_CLAIM_TO_PAY = NONE - 99999;
    private static final int WITHOUT_END = 99999;
    private static final int NOT_TO_BE_KEPT = 9999;

    private static final int DAYS = 5000;
    private static final int TOLD_DAYS = 3000;
    private static final int DAYS_AHEAD = 400;
    private static final int DAYS_OF_YEAR = 365;
    private static final int DAYS_OF_WEEK = 7;
    private static final int FIRST_OF_WEEKEND = 5;

    private static final int HOLIDAYS = 20;
    private static final int PLACES = 6;
    private static final int CHANGES = 4;
    private static final int LAWS = 8;
    private static final int LINES = 16;
    private static final int OPEN = 8;
    // Each of the eight that are open leaves an or, an and and itself waiting; the rest is spare.
    private static final int WAITING = 64;
    private static final int TAPE = 400;
    private static final int FED = 20;
    private static final int CLAIMS = 60;
    private static final int KINDS = 10;
    private static final int SUMS = 10000;
    private static final int FACTS = 12;
    private static final int IN_DOUBT = 2;
    private static final int CONTESTED_OF_CLAIM = 2;
    private static final int CONTESTED_IN_ALL = 6;
    private static final int ACTS = 6;
    private static final int ACT_CLAIMS = 3;
    private static final int ACT_SETS = 64;
    private static final int ACT_COSTS = 1000;
    private static final int COSTS = 10000;

    private static final int ASK = 4;
    private static final int PAY = 5;
    private static final int SUIT = 7;
    private static final int SORTS = 8;

    private static final int SURE = 0;
    private static final int CONTESTED = 6;

    private static final int NOT_YET = 0;
    private static final int RUNS = 1;
    private static final int STOPPED = 2;
    private static final int RENEWED = 3;
    private static final int ENDS = 4;
    private static final int DEAD = 5;
    private static final int IS_KEPT = 6;
    private static final int OFF = 7;

    private static final int FAULT_STANDS = 1;
    private static final int FAULT_ZERO = 2;
    private static final int FAULT_MANY = 3;

    // A sign is a token by its own number, a keyword by WORD and its place among WORDS.
    private static final int END_OF_TEXT = 0;
    private static final int NO_TOKEN = 1;
    private static final int NUMBER = 2;
    private static final int WORD = 256;
    private static final int TERM = WORD;
    private static final int LONG = WORD + 1;
    private static final int STOP = WORD + 2;
    private static final int RENEW = WORD + 3;
    private static final int ROLL = WORD + 4;
    private static final int FROM = WORD + 5;
    private static final int WHEN = WORD + 6;
    private static final int FIRST_UNIT = WORD + 7;
    private static final int LAST_UNIT = WORD + 9;
    private static final int FIRST_START = WORD + 10;
    private static final int LAST_START = WORD + 12;
    private static final int FIRST_SORT = WORD + 13;
    private static final int LAST_SORT = WORD + 20;
    private static final int OR = WORD + 21;
    private static final int AND = WORD + 22;
    private static final int NOT = WORD + 23;
    private static final int KIND = WORD + 24;
    private static final int SUM = WORD + 25;
    private static final int PLACE = WORD + 26;
    private static final int YEAR = WORD + 27;
    private static final int RAN = WORD + 28;
    private static final int WORD_COUNT = 29;
    private static final int WORD_WIDTH = 6;
    private static final String WORDS = "term  long  stop  renew roll  from  when  days  monthsyears done  known due   child abroadwar   talks ask   pay   lettersuit  or    and   not   kind  sum   place year  ran   ";
    private static final int[] UNIT_DAYS = {1, 30, 365};

    private final Book book;
    private final Reader reader;
    private final Clock clock;
    private final LastDays lastDays;
    private final Plan plan;
    private Book saved;

    public RanOut() {
        book = new Book();
        reader = new Reader();
        clock = new Clock(book);
        lastDays = new LastDays(book, clock);
        plan = new Plan(book, clock, lastDays);
        saved = null;
    }

    public boolean today(int day) {
        if (day < book.today || day >= TOLD_DAYS) {
            return false;
        }
        book.today = day;
        book.acts.dropAhead(day);
        return true;
    }

    public boolean holiday(int day) {
        if (!within(day, DAYS) || !book.places.putHoliday(day)) {
            return false;
        }
        lastDays.forgetAll();
        return true;
    }

    public boolean place(int p, int law) {
        if (!within(p, PLACES) || !within(law, LAWS)) {
            return false;
        }
        book.places.firstLaw[p] = law;
        lastDays.forgetAll();
        return true;
    }

    public boolean change(int p, int day, int law, boolean all) {
        if (!within(p, PLACES) || day < 1 || day >= TOLD_DAYS || !within(law, LAWS)) {
            return false;
        }
        if (!book.places.putChange(p, day, law, all)) {
            return false;
        }
        lastDays.forgetAll();
        return true;
    }

    public int feed(int a, int b, int c, int d, int e) {
        if (reader.length > TAPE - FED) {
            return NONE;
        }
        reader.putBytes(a);
        reader.putBytes(b);
        reader.putBytes(c);
        reader.putBytes(d);
        reader.putBytes(e);
        return reader.length;
    }

    public boolean end(int n) {
        if (n < 0 || n > reader.length) {
            return false;
        }
        reader.length = n;
        return true;
    }

    public int text(int k) {
        if (!within(k, LAWS)) {
            reader.passOver();
            return NONE;
        }
        Law law = reader.readLaw();
        if (law == null) {
            return NONE;
        }
        book.places.laws[k] = law;
        lastDays.forgetAll();
        return law.lines.length;
    }

    public int fault(int what) {
        if (what == 0) {
            return reader.faultKind;
        }
        return what == 1 ? reader.faultPlace : NONE;
    }

    public int claim(int place, int kind, int sum, int done, int known, int due) {
        if (!within(place, PLACES) || !within(kind, KINDS) || !within(sum, SUMS)) {
            return NONE;
        }
        if (!within(done, TOLD_DAYS) || !within(known, TOLD_DAYS) || !within(due, TOLD_DAYS)) {
            return NONE;
        }
        if (known < done || due < done) {
            return NONE;
        }
        Claims claims = book.claims;
        int claim = claims.count;
        if (claim >= CLAIMS) {
            return NONE;
        }
        claims.place[claim] = place;
        claims.kind[claim] = kind;
        claims.sum[claim] = sum;
        claims.done[claim] = done;
        claims.known[claim] = known;
        claims.due[claim] = due;
        claims.wanted[claim] = false;
        claims.factCount[claim] = 0;
        claims.count = claim + 1;
        lastDays.forgetOne(claim);
        return claim;
    }

    public int fact(int claim, int sort, int from, int to) {
        if (!isClaim(claim) || !within(sort, SORTS)) {
            return NONE;
        }
        if (!within(from, TOLD_DAYS) || !within(to, TOLD_DAYS) || to < from) {
            return NONE;
        }
        if (sort >= ASK && from != to) {
            return NONE;
        }
        int number = book.claims.putFact(claim, sort, from, to);
        if (number != NONE) {
            lastDays.forgetOne(claim);
        }
        return number;
    }

    public boolean doubt(int claim, int fact, int n) {
        if (!isClaim(claim) || n < SURE || n > CONTESTED) {
            return false;
        }
        if (!within(fact, book.claims.factCount[claim]) || !book.claims.mayBe(claim, fact, n)) {
            return false;
        }
        book.claims.factDoubt[claim * FACTS + fact] = n;
        lastDays.forgetOne(claim);
        return true;
    }

    public int last(int claim) {
        return isClaim(claim) ? lastDays.lastOf(claim) : NO_SUCH_CLAIM;
    }

    public int step(int claim, int day, int what) {
        if (!isClaim(claim) || !within(day, DAYS) || what < 0 || what > 3) {
            return CANNOT_BE;
        }
        clock.load(claim);
        clock.goOnto(day);
        if (what == 0) {
            return clock.ran;
        }
        if (what == 1) {
            return clock.term;
        }
        return what == 2 ? clock.law : clock.how;
    }

    public int span(int claim, int what) {
        if (!isClaim(claim) || what < 0 || what > 2) {
            return CANNOT_BE;
        }
        lastDays.measure(claim);
        if (what == 0) {
            return lastDays.earliest[claim];
        }
        return what == 1 ? lastDays.latest[claim] : lastDays.hangs[claim];
    }

    public int changed(int place, int what) {
        if (!within(place, PLACES) || what < 0 || what > 1) {
            return NONE;
        }
        if (book.places.changeCount[place] == 0) {
            return NONE;
        }
        int count = 0;
        int first = NONE;
        for (int claim = 0; claim < book.claims.count; claim++) {
            if (book.claims.place[claim] == place && hasOtherLastDay(claim)) {
                first = count == 0 ? claim : first;
                count++;
            }
        }
        return what == 0 ? count : first;
    }

    private boolean hasOtherLastDay(int claim) {
        int told = lastDays.lastOf(claim);
        clock.loadWithoutLastChange(claim);
        clock.goThrough(DAYS - 1);
        return clock.lastDay() != told;
    }

    public boolean act(int k, int sort, int day, int cost, int a, int b, int c) {
        if (!within(k, ACTS)) {
            return false;
        }
        if (sort == NONE) {
            book.acts.sort[k] = NONE;
            return true;
        }
        if (sort < ASK || sort > SUIT || day < book.today || day >= TOLD_DAYS) {
            return false;
        }
        if (!within(cost, ACT_COSTS) || !areActClaims(a, b, c)) {
            return false;
        }
        book.acts.sort[k] = sort;
        book.acts.day[k] = day;
        book.acts.cost[k] = cost;
        book.acts.claim[k * ACT_CLAIMS] = a;
        book.acts.claim[k * ACT_CLAIMS + 1] = b;
        book.acts.claim[k * ACT_CLAIMS + 2] = c;
        return true;
    }

    private boolean areActClaims(int a, int b, int c) {
        if (!isClaim(a) || b != NONE && !isClaim(b) || c != NONE && !isClaim(c)) {
            return false;
        }
        return a != b && a != c && (b != c || b == NONE);
    }

    public boolean want(int claim, boolean is) {
        if (!isClaim(claim)) {
            return false;
        }
        book.claims.wanted[claim] = is;
        return true;
    }

    public int cheapest(int day, int what) {
        if (!isPlanned(day) || what < 0 || what > 1) {
            return NONE;
        }
        plan.weigh(day);
        int set = plan.cheapestOf(plan.keepingAll(NONE, NONE));
        return what == 0 || set == NONE ? set : book.acts.costOf(set);
    }

    public int worth(int day, int cost, int what) {
        if (!isPlanned(day) || !within(cost, COSTS) || what < 0 || what > 2) {
            return NONE;
        }
        plan.weigh(day);
        int set = plan.worthiestFor(cost);
        if (what == 0) {
            return set;
        }
        return what == 1 ? plan.sumOf(set) : book.acts.costOf(set);
    }

    public int one(int day, int what) {
        if (!isPlanned(day) || what < 0 || what > 1) {
            return NONE;
        }
        plan.weigh(day);
        int act = plan.bestAct();
        if (what == 0) {
            return act;
        }
        return act == NONE ? 0 : plan.moreBy(act);
    }

    public int pay(int claim) {
        if (!isClaim(claim)) {
            return NO_CLAIM_TO_PAY;
        }
        int without = lastDays.lastOf(claim);
        if (without < 0 || without < book.today) {
            return 0;
        }
        clock.load(claim);
        clock.loaded.add(PAY, book.today);
        clock.goThrough(DAYS - 1);
        int with = clock.lastDay();
        return with < 0 ? WITHOUT_END : with - without;
    }

    public int contest(int day, int k, int what) {
        if (!isPlanned(day) || k < 0 || k > 2) {
            return NONE;
        }
        if (what != 0 && what != 10 && what != 11) {
            return NONE;
        }
        plan.weigh(day);
        plan.listContested(day);
        plan.findDearest(k);
        if (what == 0) {
            return plan.dearestCost;
        }
        return plan.contestedAt(what == 10 ? plan.dearestFirst : plan.dearestSecond);
    }

    public int beside(int a, int b, int what) {
        if (!within(a, LAWS) || !within(b, LAWS) || what < 0 || what > 1) {
            return NONE;
        }
        int dead = 0;
        int alive = 0;
        for (int claim = 0; claim < book.claims.count; claim++) {
            boolean lives = isAlive(lastDays.lastOf(claim), book.today);
            clock.load(claim);
            clock.loaded.putLaw(a, b);
            clock.goThrough(book.today - 1);
            boolean wouldLive = !clock.hasEnded();
            dead += lives && !wouldLive ? 1 : 0;
            alive += !lives && wouldLive ? 1 : 0;
        }
        return what == 0 ? dead : alive;
    }

    public boolean image(boolean taken) {
        if (taken) {
            if (saved == null) {
                saved = new Book();
            }
            saved.copyFrom(book);
            return true;
        }
        if (saved == null) {
            return false;
        }
        book.copyFrom(saved);
        lastDays.forgetAll();
        return true;
    }

    public int look(int what) {
        if (what == 0) {
            return book.today;
        }
        if (what == 1) {
            return book.claims.count;
        }
        if (what == 2) {
            return book.places.holidayCount;
        }
        if (what >= 3 && what <= 6) {
            return countClaims(what);
        }
        if (what == 7) {
            return Integer.bitCount(book.acts.told());
        }
        return lookAt(what);
    }

    private int countClaims(int what) {
        int count = 0;
        for (int claim = 0; claim < book.claims.count; claim++) {
            if (what == 3 && isAlive(lastDays.lastOf(claim), book.today)) {
                count++;
            } else if (what == 4 && isAlive(lastDays.lastOf(claim), book.today)) {
                count += book.claims.sum[claim];
            } else if (what == 5 && lastDays.lastOf(claim) == KEPT) {
                count++;
            } else if (what == 6 && book.claims.wanted[claim]) {
                count++;
            }
        }
        return count;
    }

    private int lookAt(int what) {
        if (what >= 10 && what < 10 + LAWS) {
            return book.places.laws[what - 10].lines.length;
        }
        if (what >= 20 && what < 20 + PLACES) {
            return book.places.changeCount[what - 20];
        }
        if (what >= 30 && what < 30 + book.claims.count) {
            return book.claims.factCount[what - 30];
        }
        return NONE;
    }

    private boolean isClaim(int claim) {
        return within(claim, book.claims.count);
    }

    private boolean isPlanned(int day) {
        return day >= book.today && day <= book.today + DAYS_AHEAD;
    }

    /** Without a last day, and kept, it is alive for ever: both are below 0. */
    private static boolean isAlive(int lastDay, int day) {
        return lastDay < 0 || lastDay >= day;
    }

    private static boolean within(int number, int count) {
        return number >= 0 && number < count;
    }

    /** A line of a law; its condition stands in the order in which it is worked out. */
    private static final class Line {
        final int kind;
        final int days;
        final int start;
        final int sort;
        final int[] condition;
        final boolean asksRan;

        Line(int kind, int days, int start, int sort, int[] condition, boolean asksRan) {
            this.kind = kind;
            this.days = days;
            this.start = start;
            this.sort = sort;
            this.condition = condition;
            this.asksRan = asksRan;
        }
    }

    /** A law never changes once it is made, so that book and image can share it. */
    private static final class Law {
        final Line[] lines;
        final boolean rolls;

        Law(Line[] read, int count) {
            lines = new Line[count];
            System.arraycopy(read, 0, lines, 0, count);
            boolean found = false;
            for (int i = 0; i < count; i++) {
                found = found || read[i].kind == ROLL;
            }
            rolls = found;
        }
    }

    /** The tape, and the reading of it as a law. */
    private static final class Reader {
        // What readCondition waits for, or stands behind.
        private static final int AT_CONDITION = 0;
        private static final int AT_QUANTITY = 1;
        private static final int AT_DIVISOR = 2;
        private static final int BEHIND_LEFT = 3;
        private static final int BEHIND_RIGHT = 4;
        private static final int BEHIND_BRACKET = 5;
        private static final int AT_END = 6;

        private static final int LEVEL_OR = 1;
        private static final int LEVEL_AND = 2;
        private static final int LEVEL_NOT = 3;
        private static final int LEVEL_COMPARISON = 4;
        private static final int LEVEL_SUM = 5;
        private static final int LEVEL_PRODUCT = 6;
        private static final int DIGITS = 4;

        final byte[] tape = new byte[TAPE];
        int length;
        int faultKind;
        int faultPlace = NONE;
        private int token;
        private int number;
        private int tokenPlace;
        private int nextPlace;
        private final Line[] lines = new Line[LINES];
        private int lineCount;
        private final int[] condition = new int[TAPE];
        private int conditionLength;
        private boolean asksRan;
        private final int[] waiting = new int[WAITING];
        private int waitingCount;
        private int openCount;
        private int bracketCount;
        private boolean right;

        void putBytes(int four) {
            for (int shift = 24; shift >= 0 && length < TAPE; shift -= 8) {
                tape[length] = (byte) (four >> shift);
                length++;
            }
        }

        /** The tape is used up also by a text that no law can take. */
        void passOver() {
            clearFault();
            length = 0;
        }

        private void clearFault() {
            faultKind = 0;
            faultPlace = NONE;
        }

        /** Empties the tape; null behind a fault. */
        Law readLaw() {
            clearFault();
            lineCount = 0;
            nextPlace = 0;
            advance();
            for (int n = 0; n <= LINES && token != END_OF_TEXT && faultKind == 0; n++) {
                readLine();
            }
            length = 0;
            return faultKind == 0 ? new Law(lines, lineCount) : null;
        }

        private void readLine() {
            int kind = token;
            if (kind < TERM || kind > ROLL) {
                blame(FAULT_STANDS);
                return;
            }
            if (lineCount >= LINES) {
                blame(FAULT_MANY);
                return;
            }
            advance();
            conditionLength = 0;
            asksRan = false;
            int days = 0;
            int start = 0;
            int sort = NONE;
            if (kind == TERM || kind == LONG) {
                days = readDays();
                expect(FROM, FROM);
                start = expect(FIRST_START, LAST_START);
            } else if (kind != ROLL) {
                sort = expect(FIRST_SORT, LAST_SORT);
            }
            if (kind != ROLL && token == WHEN && faultKind == 0) {
                advance();
                readCondition();
            }
            expect(';', ';');
            if (faultKind == 0) {
                int[] worked = Arrays.copyOf(condition, conditionLength);
                lines[lineCount] = new Line(kind, days, start, sort, worked, asksRan);
                lineCount++;
            }
        }

        private int readDays() {
            int count = number;
            if (token == NUMBER && count == 0) {
                blame(FAULT_ZERO);
            }
            expect(NUMBER, NUMBER);
            return count * UNIT_DAYS[expect(FIRST_UNIT, LAST_UNIT)];
        }

        /** Which of these tokens stands there; 0 behind a fault. */
        private int expect(int first, int last) {
            if (faultKind != 0) {
                return 0;
            }
            if (token < first || token > last) {
                blame(FAULT_STANDS);
                return 0;
            }
            int which = token - first;
            advance();
            return which;
        }

        private void blame(int kind) {
            if (faultKind == 0) {
                faultKind = kind;
                faultPlace = tokenPlace;
            }
        }

        private void readCondition() {
            waitingCount = 0;
            openCount = 0;
            bracketCount = 0;
            right = false;
            int state = AT_CONDITION;
            for (int n = 0; n <= TAPE && state != AT_END && faultKind == 0; n++) {
                if (state == AT_CONDITION && (token == NOT || token == '(')) {
                    readOpening();
                } else if (state <= AT_DIVISOR) {
                    readQuantity(state == AT_DIVISOR);
                    state = right ? BEHIND_RIGHT : BEHIND_LEFT;
                } else {
                    state = readBehind(state);
                }
                if (state != AT_END && faultKind == 0) {
                    advance();
                }
            }
        }

        private void readOpening() {
            if (openCount >= OPEN) {
                blame(FAULT_MANY);
                return;
            }
            openCount++;
            if (token == '(') {
                bracketCount++;
            }
            holdBack(token);
        }

        private void readQuantity(boolean divisor) {
            if (token == NUMBER) {
                if (divisor && number == 0) {
                    blame(FAULT_ZERO);
                    return;
                }
                emit(number);
            } else if (!divisor && token >= KIND && token <= RAN) {
                asksRan = asksRan || token == RAN;
                emit(-token);
            } else {
                blame(FAULT_STANDS);
            }
        }

        /** Reads what may stand behind a quantity or a bracket; answers what comes next. */
        private int readBehind(int state) {
            int joint = token;
            int level = levelOf(joint);
            boolean compared = state != BEHIND_LEFT;
            if (level >= LEVEL_SUM && state != BEHIND_BRACKET) {
                join(joint, level);
                return joint == '/' ? AT_DIVISOR : AT_QUANTITY;
            }
            if (level == LEVEL_COMPARISON && !compared) {
                join(joint, level);
                right = true;
                return AT_QUANTITY;
            }
            if ((joint == AND || joint == OR) && compared) {
                join(joint, level);
                right = false;
                return AT_CONDITION;
            }
            if (joint == ')' && compared && bracketCount > 0) {
                closeBracket();
                return BEHIND_BRACKET;
            }
            if (!compared || bracketCount > 0) {
                blame(FAULT_STANDS);
                return AT_END;
            }
            settle(LEVEL_OR);
            return AT_END;
        }

        private void join(int joint, int level) {
            settle(level);
            holdBack(joint);
        }

        private void closeBracket() {
            settle(LEVEL_OR);
            if (waitingCount > 0) {
                waitingCount--;
            }
            openCount--;
            bracketCount--;
        }

        /** Puts down all that waits and binds as strongly, back to an open bracket. */
        private void settle(int level) {
            for (int i = waitingCount - 1; i >= 0 && levelOf(waiting[i]) >= level; i--) {
                if (waiting[i] == NOT) {
                    openCount--;
                }
                emit(-waiting[i]);
                waitingCount = i;
            }
        }

        private void holdBack(int joint) {
            if (waitingCount < waiting.length) {
                waiting[waitingCount] = joint;
                waitingCount++;
            }
        }

        private void emit(int code) {
            if (conditionLength < condition.length) {
                condition[conditionLength] = code;
                conditionLength++;
            }
        }

        private static int levelOf(int joint) {
            switch (joint) {
                case '*':
                case '/':
                    return LEVEL_PRODUCT;
                case '+':
                case '-':
                    return LEVEL_SUM;
                case '<':
                case '=':
                case '>':
                    return LEVEL_COMPARISON;
                case NOT:
                    return LEVEL_NOT;
                case AND:
                    return LEVEL_AND;
                case OR:
                    return LEVEL_OR;
                default:
                    return 0;
            }
        }

        private void advance() {
            int from = nextPlace;
            while (from < length && isBlank(tape[from])) {
                from++;
            }
            int to = from;
            tokenPlace = from;
            if (from >= length) {
                token = END_OF_TEXT;
            } else if (isLetter(tape[from])) {
                while (to < length && isLetter(tape[to])) {
                    to++;
                }
                token = wordOf(from, to);
            } else if (isDigit(tape[from])) {
                while (to < length && isDigit(tape[to])) {
                    to++;
                }
                token = to - from <= DIGITS ? NUMBER : NO_TOKEN;
                number = numberOf(from, Math.min(to, from + DIGITS));
            } else {
                token = isSign(tape[from]) ? tape[from] : NO_TOKEN;
                to++;
            }
            nextPlace = to;
        }

        private int wordOf(int from, int to) {
            if (to - from > WORD_WIDTH) {
                return NO_TOKEN;
            }
            for (int word = 0; word < WORD_COUNT; word++) {
                boolean same = true;
                for (int i = 0; i < WORD_WIDTH && same; i++) {
                    int sign = from + i < to ? tape[from + i] : ' ';
                    same = sign == WORDS.charAt(word * WORD_WIDTH + i);
                }
                if (same) {
                    return WORD + word;
                }
            }
            return NO_TOKEN;
        }

        private int numberOf(int from, int to) {
            int sum = 0;
            for (int i = from; i < to; i++) {
                sum = sum * 10 + tape[i] - '0';
            }
            return sum;
        }

        private static boolean isBlank(int sign) {
            return sign == ' ' || sign == '\n';
        }

        private static boolean isLetter(int sign) {
            return sign >= 'a' && sign <= 'z' || sign >= 'A' && sign <= 'Z';
        }

        private static boolean isDigit(int sign) {
            return sign >= '0' && sign <= '9';
        }

        private static boolean isSign(int sign) {
            return sign == ';' || sign == '(' || sign == ')' || levelOf(sign) > 0;
        }
    }

    /** Days off, and the laws of the places with their changes. */
    private static final class Places {
        final int[] holidays = new int[HOLIDAYS];
        int holidayCount;
        final int[] firstLaw = new int[PLACES];
        final int[] changeCount = new int[PLACES];
        final int[] changeDay = new int[PLACES * CHANGES];
        final int[] changeLaw = new int[PLACES * CHANGES];
        final boolean[] changeAll = new boolean[PLACES * CHANGES];
        final Law[] laws = new Law[LAWS];

        Places() {
            Law empty = new Law(new Line[0], 0);
            for (int k = 0; k < LAWS; k++) {
                laws[k] = empty;
            }
        }

        boolean putHoliday(int day) {
            if (isHoliday(day)) {
                return true;
            }
            if (holidayCount >= HOLIDAYS) {
                return false;
            }
            holidays[holidayCount] = day;
            holidayCount++;
            return true;
        }

        private boolean isHoliday(int day) {
            for (int i = 0; i < holidayCount; i++) {
                if (holidays[i] == day) {
                    return true;
                }
            }
            return false;
        }

        boolean isOff(int day) {
            return day % DAYS_OF_WEEK >= FIRST_OF_WEEKEND || isHoliday(day);
        }

        boolean putChange(int p, int day, int law, boolean all) {
            int count = changeCount[p];
            int at = p * CHANGES + count;
            if (count >= CHANGES || count > 0 && changeDay[at - 1] >= day) {
                return false;
            }
            changeDay[at] = day;
            changeLaw[at] = law;
            changeAll[at] = all;
            changeCount[p] = count + 1;
            return true;
        }

        void copyFrom(Places other) {
            System.arraycopy(other.holidays, 0, holidays, 0, HOLIDAYS);
            holidayCount = other.holidayCount;
            System.arraycopy(other.firstLaw, 0, firstLaw, 0, PLACES);
            System.arraycopy(other.changeCount, 0, changeCount, 0, PLACES);
            System.arraycopy(other.changeDay, 0, changeDay, 0, PLACES * CHANGES);
            System.arraycopy(other.changeLaw, 0, changeLaw, 0, PLACES * CHANGES);
            System.arraycopy(other.changeAll, 0, changeAll, 0, PLACES * CHANGES);
            System.arraycopy(other.laws, 0, laws, 0, LAWS);
        }
    }

    /** The claims with their facts; fact f of claim c stands at c * FACTS + f. */
    private static final class Claims {
        int count;
        final int[] place = new int[CLAIMS];
        final int[] kind = new int[CLAIMS];
        final int[] sum = new int[CLAIMS];
        final int[] done = new int[CLAIMS];
        final int[] known = new int[CLAIMS];
        final int[] due = new int[CLAIMS];
        final boolean[] wanted = new boolean[CLAIMS];
        final int[] factCount = new int[CLAIMS];
        final int[] factSort = new int[CLAIMS * FACTS];
        final int[] factFrom = new int[CLAIMS * FACTS];
        final int[] factTo = new int[CLAIMS * FACTS];
        final int[] factDoubt = new int[CLAIMS * FACTS];

        int putFact(int claim, int sort, int from, int to) {
            int number = factCount[claim];
            if (number >= FACTS) {
                return NONE;
            }
            int at = claim * FACTS + number;
            factSort[at] = sort;
            factFrom[at] = from;
            factTo[at] = to;
            factDoubt[at] = SURE;
            factCount[claim] = number + 1;
            return number;
        }

        /** Whether that fact may be told so, by how many others are. */
        boolean mayBe(int claim, int fact, int doubt) {
            if (doubt == SURE) {
                return true;
            }
            int inDoubt = 0;
            int contested = 0;
            for (int other = 0; other < factCount[claim]; other++) {
                int is = other == fact ? SURE : factDoubt[claim * FACTS + other];
                inDoubt += is != SURE && is != CONTESTED ? 1 : 0;
                contested += is == CONTESTED ? 1 : 0;
            }
            if (doubt != CONTESTED) {
                return inDoubt < IN_DOUBT;
            }
            if (contested >= CONTESTED_OF_CLAIM) {
                return false;
            }
            return factDoubt[claim * FACTS + fact] == CONTESTED || contestedInAll() < CONTESTED_IN_ALL;
        }

        private int contestedInAll() {
            int contested = 0;
            for (int claim = 0; claim < count; claim++) {
                for (int fact = 0; fact < factCount[claim]; fact++) {
                    contested += factDoubt[claim * FACTS + fact] == CONTESTED ? 1 : 0;
                }
            }
            return contested;
        }

        void copyFrom(Claims other) {
            count = other.count;
            System.arraycopy(other.place, 0, place, 0, CLAIMS);
            System.arraycopy(other.kind, 0, kind, 0, CLAIMS);
            System.arraycopy(other.sum, 0, sum, 0, CLAIMS);
            System.arraycopy(other.done, 0, done, 0, CLAIMS);
            System.arraycopy(other.known, 0, known, 0, CLAIMS);
            System.arraycopy(other.due, 0, due, 0, CLAIMS);
            System.arraycopy(other.wanted, 0, wanted, 0, CLAIMS);
            System.arraycopy(other.factCount, 0, factCount, 0, CLAIMS);
            System.arraycopy(other.factSort, 0, factSort, 0, CLAIMS * FACTS);
            System.arraycopy(other.factFrom, 0, factFrom, 0, CLAIMS * FACTS);
            System.arraycopy(other.factTo, 0, factTo, 0, CLAIMS * FACTS);
            System.arraycopy(other.factDoubt, 0, factDoubt, 0, CLAIMS * FACTS);
        }
    }

    /** The acts that are told; a set of them has bit k for act k. */
    private static final class Acts {
        final int[] sort = new int[ACTS];
        final int[] day = new int[ACTS];
        final int[] cost = new int[ACTS];
        final int[] claim = new int[ACTS * ACT_CLAIMS];

        Acts() {
            Arrays.fill(sort, NONE);
        }

        void dropAhead(int today) {
            for (int k = 0; k < ACTS; k++) {
                if (day[k] < today) {
                    sort[k] = NONE;
                }
            }
        }

        int told() {
            int set = 0;
            for (int k = 0; k < ACTS; k++) {
                set |= sort[k] != NONE ? 1 << k : 0;
            }
            return set;
        }

        int toldOf(int which) {
            int set = 0;
            for (int i = 0; i < ACTS * ACT_CLAIMS; i++) {
                int k = i / ACT_CLAIMS;
                set |= claim[i] == which && sort[k] != NONE ? 1 << k : 0;
            }
            return set;
        }

        int costOf(int set) {
            int sum = 0;
            for (int k = 0; k < ACTS; k++) {
                sum += (set >> k & 1) != 0 ? cost[k] : 0;
            }
            return sum;
        }

        void copyFrom(Acts other) {
            System.arraycopy(other.sort, 0, sort, 0, ACTS);
            System.arraycopy(other.day, 0, day, 0, ACTS);
            System.arraycopy(other.cost, 0, cost, 0, ACTS);
            System.arraycopy(other.claim, 0, claim, 0, ACTS * ACT_CLAIMS);
        }
    }

    /** All that an image holds. */
    private static final class Book {
        int today;
        final Places places = new Places();
        final Claims claims = new Claims();
        final Acts acts = new Acts();

        void copyFrom(Book other) {
            today = other.today;
            places.copyFrom(other.places);
            claims.copyFrom(other.claims);
            acts.copyFrom(other.acts);
        }
    }

    /** One claim as its clock sees it: facts and laws may be put otherwise than they are told. */
    private static final class Case {
        private final Book book;
        private int claim;
        int kind;
        int sum;
        int place;
        final int[] starts = new int[3];
        private int factCount;
        private final int[] sort = new int[FACTS + ACTS];
        private final int[] from = new int[FACTS + ACTS];
        private final int[] to = new int[FACTS + ACTS];
        private int lawCount;
        private final int[] lawFrom = new int[CHANGES + 1];
        private final int[] lawIs = new int[CHANGES + 1];

        Case(Book book) {
            this.book = book;
        }

        void load(int claim, int changes) {
            Claims claims = book.claims;
            this.claim = claim;
            kind = claims.kind[claim];
            sum = claims.sum[claim];
            place = claims.place[claim];
            starts[0] = claims.done[claim];
            starts[1] = claims.known[claim];
            starts[2] = claims.due[claim];
            loadFacts();
            loadLaws(changes);
        }

        void loadFacts() {
            int at = claim * FACTS;
            factCount = book.claims.factCount[claim];
            System.arraycopy(book.claims.factSort, at, sort, 0, factCount);
            System.arraycopy(book.claims.factFrom, at, from, 0, factCount);
            System.arraycopy(book.claims.factTo, at, to, 0, factCount);
        }

        private void loadLaws(int changes) {
            Places places = book.places;
            lawCount = 1;
            lawFrom[0] = 0;
            lawIs[0] = places.firstLaw[place];
            for (int i = 0; i < changes && i < CHANGES; i++) {
                int at = place * CHANGES + i;
                if (places.changeAll[at] || starts[0] >= places.changeDay[at]) {
                    lawFrom[lawCount] = places.changeDay[at];
                    lawIs[lawCount] = places.changeLaw[at];
                    lawCount++;
                }
            }
        }

        void putLaw(int law, int inPlaceOf) {
            for (int i = 0; i < lawCount; i++) {
                lawIs[i] = lawIs[i] == inPlaceOf ? law : lawIs[i];
            }
        }

        void takeAway(int facts) {
            for (int fact = 0; fact < factCount; fact++) {
                sort[fact] = (facts >> fact & 1) != 0 ? NONE : sort[fact];
            }
        }

        void delay(int fact, int days) {
            if (within(fact, factCount)) {
                from[fact] += days;
                to[fact] += days;
            }
        }

        void add(int sortOf, int day) {
            if (factCount < sort.length) {
                sort[factCount] = sortOf;
                from[factCount] = day;
                to[factCount] = day;
                factCount++;
            }
        }

        void addActs(int set) {
            for (int k = 0; k < ACTS; k++) {
                if ((set >> k & 1) != 0) {
                    add(book.acts.sort[k], book.acts.day[k]);
                }
            }
        }

        int lawOn(int day) {
            int law = lawIs[0];
            for (int i = 1; i < lawCount; i++) {
                law = lawFrom[i] <= day ? lawIs[i] : law;
            }
            return law;
        }

        /** Bit s: a fact of sort s is on that day, or lasts on it. */
        int sortsOn(int day) {
            int sorts = 0;
            for (int fact = 0; fact < factCount; fact++) {
                if (from[fact] <= day && day <= to[fact] && sort[fact] != NONE) {
                    sorts |= 1 << sort[fact];
                }
            }
            return sorts;
        }

        /** The first day behind this one on which more than ran can be another. */
        int turnBehind(int day, Law law) {
            int turn = (day / DAYS_OF_YEAR + 1) * DAYS_OF_YEAR;
            for (int i = 1; i < lawCount; i++) {
                turn = sooner(turn, lawFrom[i], day);
            }
            for (int i = 0; i < starts.length; i++) {
                turn = sooner(turn, starts[i] + 1, day);
            }
            for (int fact = 0; fact < factCount; fact++) {
                turn = sooner(turn, from[fact], day);
                turn = sooner(turn, to[fact] + 1, day);
            }
            for (int i = 0; i < law.lines.length; i++) {
                Line line = law.lines[i];
                if (line.kind == LONG) {
                    turn = sooner(turn, starts[line.start] + line.days, day);
                }
            }
            return turn;
        }

        private static int sooner(int turn, int other, int day) {
            return other > day && other < turn ? other : turn;
        }
    }

    /** The clock of the claim that is loaded. */
    private static final class Clock {
        final Case loaded;
        private final Book book;
        int ran;
        int term;
        int law;
        int how;
        private int termStart;
        private int next;
        private boolean over;
        private int ranAhead;
        private boolean askedRan;
        private final int[] stack = new int[WAITING];
        private int markedNext;
        private int markedRan;
        private int markedHow;
        private boolean markedOver;

        Clock(Book book) {
            this.book = book;
            loaded = new Case(book);
        }

        void load(int claim) {
            loaded.load(claim, book.places.changeCount[book.claims.place[claim]]);
            begin();
        }

        void loadWithoutLastChange(int claim) {
            loaded.load(claim, book.places.changeCount[book.claims.place[claim]] - 1);
            begin();
        }

        private void begin() {
            ran = 0;
            term = NONE;
            how = NOT_YET;
            next = loaded.starts[0];
            over = false;
        }

        /** Later sets of facts can go on from here, if they differ only from the next day on. */
        void mark() {
            markedNext = next;
            markedRan = ran;
            markedHow = how;
            markedOver = over;
        }

        void goBack() {
            next = markedNext;
            ran = markedRan;
            how = markedHow;
            over = markedOver;
        }

        boolean hasEnded() {
            return over && how == ENDS;
        }

        /** Needs all days gone through. */
        int lastDay() {
            if (!over) {
                return NONE;
            }
            return how == ENDS ? next - 1 : KEPT;
        }

        void goThrough(int lastOne) {
            for (int day = next; day <= lastOne && !over; day++) {
                goDay(day);
                day = Math.max(day, calmThrough(day, lastOne));
                next = day + 1;
            }
        }

        /** Stands on that day as STEPS tell it. */
        void goOnto(int day) {
            goThrough(day - 1);
            if (day < loaded.starts[0]) {
                ranAhead = 0;
                law = loaded.lawOn(day);
                findTerm(book.places.laws[law], day);
            } else if (over) {
                how = how == ENDS ? DEAD : how;
            } else {
                goDay(day);
                next = day + 1;
            }
        }

        private void goDay(int day) {
            ranAhead = ran;
            askedRan = false;
            law = loaded.lawOn(day);
            Law text = book.places.laws[law];
            findTerm(text, day);
            int sorts = loaded.sortsOn(day);
            if ((sorts >> SUIT & 1) != 0) {
                how = IS_KEPT;
                over = true;
                return;
            }
            if (sorts >> ASK != 0 && hasLine(text, RENEW, sorts >> ASK << ASK, day)) {
                ran = 0;
                how = RENEWED;
            } else if (term == NONE || day <= termStart) {
                how = NOT_YET;
            } else if (sorts != 0 && hasLine(text, STOP, sorts, day)) {
                how = STOPPED;
            } else {
                ran++;
                how = RUNS;
            }
            if (term != NONE && ran >= term || isLongOver(text, day)) {
                over = !text.rolls || !book.places.isOff(day);
                how = over ? ENDS : OFF;
            }
        }

        private void findTerm(Law text, int day) {
            term = NONE;
            termStart = NONE;
            for (int i = 0; i < text.lines.length && term == NONE; i++) {
                Line line = text.lines[i];
                if (line.kind == TERM && holds(line, day)) {
                    term = line.days;
                    termStart = loaded.starts[line.start];
                }
            }
        }

        private boolean hasLine(Law text, int kind, int sorts, int day) {
            for (int i = 0; i < text.lines.length; i++) {
                Line line = text.lines[i];
                if (line.kind == kind && (sorts >> line.sort & 1) != 0 && holds(line, day)) {
                    return true;
                }
            }
            return false;
        }

        private boolean isLongOver(Law text, int day) {
            for (int i = 0; i < text.lines.length; i++) {
                Line line = text.lines[i];
                if (line.kind == LONG && day >= loaded.starts[line.start] + line.days && holds(line, day)) {
                    return true;
                }
            }
            return false;
        }

        /**
         * Goes on over days that are like this one but for ran, since a day at a time over all
         * claims and sets would be dear; answers the last of them.
         */
        private int calmThrough(int day, int lastOne) {
            if (over || how > STOPPED || how == RUNS && askedRan) {
                return day;
            }
            int calm = Math.min(lastOne, loaded.turnBehind(day, book.places.laws[law]) - 1);
            if (how == RUNS) {
                calm = Math.min(calm, day + term - ran - 1);
                ran += calm - day;
            }
            return calm;
        }

        private boolean holds(Line line, int day) {
            int[] condition = line.condition;
            if (condition.length == 0) {
                return true;
            }
            askedRan = askedRan || line.asksRan;
            int top = 0;
            for (int i = 0; i < condition.length; i++) {
                int code = condition[i];
                if (code >= 0 || -code >= KIND) {
                    if (top >= stack.length) {
                        return false;
                    }
                    stack[top] = code >= 0 ? code : valueOf(-code, day);
                    top++;
                } else if (-code == NOT) {
                    if (top < 1) {
                        return false;
                    }
                    stack[top - 1] = 1 - stack[top - 1];
                } else {
                    if (top < 2) {
                        return false;
                    }
                    top--;
                    stack[top - 1] = joined(-code, stack[top - 1], stack[top]);
                }
            }
            return top > 0 && stack[0] != 0;
        }

        private int valueOf(int word, int day) {
            switch (word) {
                case KIND:
                    return loaded.kind;
                case SUM:
                    return loaded.sum;
                case PLACE:
                    return loaded.place;
                case YEAR:
                    return day / DAYS_OF_YEAR;
                default:
                    return ranAhead;
            }
        }

        private static int joined(int joint, int a, int b) {
            switch (joint) {
                case '+':
                    return a + b;
                case '-':
                    return a - b;
                case '*':
                    return a * b;
                case '/':
                    return b == 0 ? 0 : a / b;
                case '<':
                    return a < b ? 1 : 0;
                case '=':
                    return a == b ? 1 : 0;
                case '>':
                    return a > b ? 1 : 0;
                case AND:
                    return a & b;
                default:
                    return a | b;
            }
        }
    }

    /** The last days as told, and their spans: kept until something they hang on is told. */
    private static final class LastDays {
        private static final int UNKNOWN = NONE - 3;

        final int[] earliest = new int[CLAIMS];
        final int[] latest = new int[CLAIMS];
        final int[] hangs = new int[CLAIMS];
        private final int[] lasts = new int[CLAIMS];
        private final Book book;
        private final Clock clock;

        LastDays(Book book, Clock clock) {
            this.book = book;
            this.clock = clock;
            forgetAll();
        }

        void forgetAll() {
            Arrays.fill(lasts, UNKNOWN);
            Arrays.fill(earliest, UNKNOWN);
        }

        void forgetOne(int claim) {
            lasts[claim] = UNKNOWN;
            earliest[claim] = UNKNOWN;
        }

        int lastOf(int claim) {
            if (lasts[claim] == UNKNOWN) {
                clock.load(claim);
                clock.goThrough(DAYS - 1);
                lasts[claim] = clock.lastDay();
            }
            return lasts[claim];
        }

        void measure(int claim) {
            if (earliest[claim] != UNKNOWN) {
                return;
            }
            int told = lastOf(claim);
            int cases = 1;
            int first = DAYS;
            int matter = 0;
            for (int fact = 0; fact < book.claims.factCount[claim]; fact++) {
                int at = claim * FACTS + fact;
                int doubt = book.claims.factDoubt[at];
                cases *= waysOf(doubt);
                if (doubt != SURE) {
                    first = Math.min(first, book.claims.factFrom[at]);
                }
                if (doubt == CONTESTED && lastWithout(claim, fact) != told) {
                    matter |= 1 << fact;
                }
            }
            hangs[claim] = matter;
            earliest[claim] = told;
            latest[claim] = told;
            if (cases == 1) {
                return;
            }
            clock.load(claim);
            clock.goThrough(first - 1);
            clock.mark();
            for (int number = 1; number < cases; number++) {
                stretch(claim, number);
            }
        }

        private static int waysOf(int doubt) {
            return doubt == CONTESTED ? 2 : doubt + 1;
        }

        private int lastWithout(int claim, int fact) {
            clock.load(claim);
            clock.loaded.takeAway(1 << fact);
            clock.goThrough(DAYS - 1);
            return clock.lastDay();
        }

        /** The cases are numbered by the ways of each fact, one after another; 0 is as told. */
        private void stretch(int claim, int number) {
            int rest = number;
            clock.goBack();
            clock.loaded.loadFacts();
            for (int fact = 0; fact < book.claims.factCount[claim]; fact++) {
                int doubt = book.claims.factDoubt[claim * FACTS + fact];
                int ways = Math.max(1, waysOf(doubt));
                int way = rest % ways;
                rest /= ways;
                if (doubt == CONTESTED) {
                    clock.loaded.takeAway(way << fact);
                } else {
                    clock.loaded.delay(fact, way);
                }
            }
            clock.goThrough(DAYS - 1);
            int last = clock.lastDay();
            if (isLater(earliest[claim], last)) {
                earliest[claim] = last;
            }
            if (isLater(last, latest[claim])) {
                latest[claim] = last;
            }
        }

        /** None is later than all days, kept later than none: as numbers below 0 they fall. */
        private static boolean isLater(int a, int b) {
            if (a >= 0 && b >= 0) {
                return a > b;
            }
            return a < b;
        }
    }

    /** What sets of acts do to the claims at a day; sets of sets have bit s for the set s. */
    private static final class Plan {
        private static final long EVERY_SET = -1L;

        int dearestCost;
        int dearestFirst;
        int dearestSecond;
        private final Book book;
        private final Clock clock;
        private final LastDays lastDays;
        private final long[] alive = new long[CLAIMS];
        private final int[] contested = new int[CONTESTED_IN_ALL];
        private final long[] without = new long[CONTESTED_IN_ALL];
        private final long[] withoutBoth = new long[CONTESTED_IN_ALL];
        private int contestedCount;

        Plan(Book book, Clock clock, LastDays lastDays) {
            this.book = book;
            this.clock = clock;
            this.lastDays = lastDays;
        }

        void weigh(int day) {
            for (int claim = 0; claim < book.claims.count; claim++) {
                if (book.acts.toldOf(claim) != 0) {
                    alive[claim] = setsFor(claim, day, 0);
                } else {
                    alive[claim] = isAlive(lastDays.lastOf(claim), day) ? EVERY_SET : 0;
                }
            }
        }

        /** The sets by which the claim is alive at the day, those facts taken away. */
        private long setsFor(int claim, int day, int away) {
            int acts = book.acts.toldOf(claim);
            long sets = 0;
            clock.load(claim);
            clock.loaded.takeAway(away);
            clock.goThrough(book.today - 1);
            clock.mark();
            for (int set = 0; set < ACT_SETS; set++) {
                if ((set & acts) == set) {
                    clock.goBack();
                    clock.loaded.loadFacts();
                    clock.loaded.takeAway(away);
                    clock.loaded.addActs(set);
                    clock.goThrough(day - 1);
                    sets |= clock.hasEnded() ? 0 : 1L << set;
                } else {
                    sets |= (sets >>> (set & acts) & 1) << set;
                }
            }
            return sets;
        }

        /** The sets by which all wanted claims are alive, without those contested facts. */
        long keepingAll(int first, int second) {
            long sets = EVERY_SET;
            int claimOfFirst = claimOf(first);
            int claimOfSecond = claimOf(second);
            for (int claim = 0; claim < book.claims.count; claim++) {
                if (!book.claims.wanted[claim]) {
                    continue;
                }
                if (claim == claimOfFirst && claim == claimOfSecond) {
                    sets &= withoutBoth[first];
                } else if (claim == claimOfFirst) {
                    sets &= without[first];
                } else if (claim == claimOfSecond) {
                    sets &= without[second];
                } else {
                    sets &= alive[claim];
                }
            }
            return sets;
        }

        int cheapestOf(long sets) {
            int told = book.acts.told();
            int best = NONE;
            for (int set = 0; set < ACT_SETS; set++) {
                if ((set & told) == set && (sets >>> set & 1) != 0) {
                    best = best == NONE || isCheaper(set, best) ? set : best;
                }
            }
            return best;
        }

        private boolean isCheaper(int set, int than) {
            int cost = book.acts.costOf(set);
            int thanCost = book.acts.costOf(than);
            return cost < thanCost || cost == thanCost && Integer.bitCount(set) < Integer.bitCount(than);
        }

        int worthiestFor(int cost) {
            int told = book.acts.told();
            int best = 0;
            for (int set = 1; set < ACT_SETS; set++) {
                int costs = book.acts.costOf(set);
                if ((set & told) == set && costs <= cost) {
                    int more = sumOf(set) - sumOf(best);
                    best = more > 0 || more == 0 && costs < book.acts.costOf(best) ? set : best;
                }
            }
            return best;
        }

        int sumOf(int set) {
            int sum = 0;
            for (int claim = 0; claim < book.claims.count; claim++) {
                sum += (alive[claim] >>> set & 1) != 0 ? book.claims.sum[claim] : 0;
            }
            return sum;
        }

        int bestAct() {
            int told = book.acts.told();
            int best = NONE;
            int most = 0;
            for (int k = 0; k < ACTS; k++) {
                int more = (told >> k & 1) != 0 ? moreBy(k) : 0;
                if (more > most) {
                    best = k;
                    most = more;
                }
            }
            return best;
        }

        int moreBy(int act) {
            int more = 0;
            for (int claim = 0; claim < book.claims.count; claim++) {
                more += (int) (alive[claim] >>> (1 << act) & 1) - (int) (alive[claim] & 1);
            }
            return more;
        }

        /** Needs weigh() of that day first. */
        void listContested(int day) {
            contestedCount = 0;
            for (int at = 0; at < book.claims.count * FACTS; at++) {
                int claim = at / FACTS;
                boolean told = at % FACTS < book.claims.factCount[claim];
                if (told && book.claims.factDoubt[at] == CONTESTED && contestedCount < CONTESTED_IN_ALL) {
                    contested[contestedCount] = at;
                    contestedCount++;
                }
            }
            for (int i = 0; i < contestedCount; i++) {
                int claim = claimOf(i);
                int fact = 1 << contested[i] % FACTS;
                without[i] = setsFor(claim, day, fact);
                if (i + 1 < contestedCount && claimOf(i + 1) == claim) {
                    withoutBoth[i] = setsFor(claim, day, fact | 1 << contested[i + 1] % FACTS);
                }
            }
        }

        private int claimOf(int i) {
            return within(i, contestedCount) ? contested[i] / FACTS : NONE;
        }

        int contestedAt(int i) {
            return within(i, contestedCount) ? contested[i] : NONE;
        }

        /** Goes through the sets from the fewest and first on, so that only a dearer one counts. */
        void findDearest(int most) {
            dearestCost = NONE;
            tryWithout(NONE, NONE);
            for (int i = 0; i < contestedCount && most >= 1; i++) {
                tryWithout(i, NONE);
            }
            for (int i = 0; i < contestedCount && most >= 2; i++) {
                for (int j = i + 1; j < contestedCount; j++) {
                    tryWithout(i, j);
                }
            }
        }

        private void tryWithout(int first, int second) {
            int set = cheapestOf(keepingAll(first, second));
            int cost = set == NONE ? NOT_TO_BE_KEPT : book.acts.costOf(set);
            if (cost > dearestCost) {
                dearestCost = cost;
                dearestFirst = first;
                dearestSecond = second;
            }
        }
    }
}
