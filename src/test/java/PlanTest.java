/** Promises 19 to 24: sets of acts, paying, contesting, and one law beside another. */
public final class PlanTest {
    public static void main(String[] args) {
        cheapest();
        cheapestTies();
        worth();
        one();
        pay();
        contest();
        contestPairs();
        beside();
        full();
        Check.leave("PlanTest");
    }

    private static RanOut claims(String law, int count) {
        RanOut x = Check.with(law);
        for (int c = 0; c < count; c++) {
            x.claim(0, c, 10 * (c + 1), 0, 0, 0);
        }
        return x;
    }

    private static void set(RanOut x, int day, int set, int cost) {
        Check.due("cheapest set to " + day, x.cheapest(day, 0), set);
        Check.due("its cost", x.cheapest(day, 1), cost);
    }

    private static void cheapest() {
        RanOut x = claims("term 20 days from done;renew ask;renew pay when kind=2;", 3);
        x.today(5);
        set(x, 21, 0, 0);
        x.want(0, true);
        set(x, 20, 0, 0);
        set(x, 21, -1, -1);
        x.act(0, 4, 15, 9, 0, 1, 2);
        x.act(1, 4, 20, 4, 0, -1, -1);
        x.act(2, 5, 18, 3, 2, 1, -1);
        x.act(3, 7, 35, 2, 0, -1, -1);
        set(x, 21, 2, 4);
        set(x, 36, 2, 4);
        set(x, 41, 10, 6);
        set(x, 405, 10, 6);
        x.want(2, true);
        set(x, 35, 6, 7);
        set(x, 38, 6, 7);
        set(x, 39, -1, -1);
        x.want(1, true);
        set(x, 35, 1, 9);
        set(x, 36, -1, -1);
        x.act(0, -1, 0, 0, 0, 0, 0);
        set(x, 35, -1, -1);
        Check.due("day ahead of TODAY", x.cheapest(4, 0), -1);
        Check.due("day TODAY", x.cheapest(5, 0), 0);
        Check.due("401 days", x.cheapest(406, 0), -1);
        Check.due("what 2", x.cheapest(10, 2), -1);
        Check.due("what -1", x.cheapest(10, -1), -1);
        x.today(21);
        x.act(5, 4, 21, 0, 0, 1, 2);
        set(x, 21, -1, -1);
        Check.due("an act on a dead claim does nothing", x.one(21, 0), -1);
    }

    private static void cheapestTies() {
        RanOut x = claims("term 20 days from done;renew ask;", 2);
        x.want(0, true);
        x.want(1, true);
        x.act(0, 4, 10, 2, 0, -1, -1);
        x.act(1, 4, 10, 3, 1, -1, -1);
        x.act(4, 4, 10, 5, 0, 1, -1);
        set(x, 25, 16, 5);
        x.act(5, 4, 10, 5, 1, 0, -1);
        set(x, 25, 16, 5);
        x.act(4, -1, 0, 0, 0, 0, 0);
        set(x, 25, 32, 5);
        x.act(5, 4, 10, 6, 1, 0, -1);
        set(x, 25, 3, 5);
        x.act(2, 4, 10, 0, 0, 1, -1);
        x.act(3, 4, 10, 0, 0, 1, -1);
        set(x, 25, 4, 0);
    }

    private static void worth() {
        RanOut x = claims("term 20 days from done;renew ask;", 4);
        x.claim(1, 9, 5000, 0, 0, 0);
        x.place(1, 7);
        x.act(0, 4, 10, 4, 0, 1, -1);
        x.act(1, 4, 12, 5, 2, -1, -1);
        x.act(2, 4, 14, 5, 3, -1, -1);
        x.act(5, 4, 14, 1, 2, -1, -1);
        int[][] due = {{0, 0, 5000, 0}, {1, 32, 5030, 1}, {4, 32, 5030, 1}, {5, 33, 5060, 5}, {6, 36, 5070, 6}, {10, 37, 5100, 10}, {9999, 37, 5100, 10}};
        for (int[] d : due) {
            Check.due("worth for " + d[0], x.worth(25, d[0], 0), d[1]);
            Check.due("its sum", x.worth(25, d[0], 1), d[2]);
            Check.due("its cost", x.worth(25, d[0], 2), d[3]);
        }
        Check.due("sooner: the later asking is not needed", x.worth(20, 9999, 0), 0);
        Check.due("all", x.worth(20, 9999, 1), 5100);
        x.act(3, 4, 14, 1, 2, -1, -1);
        Check.due("of like ones the least as a number", x.worth(25, 1, 0), 8);
        x.act(0, 4, 10, 0, 1, -1, -1);
        x.act(4, 4, 10, 0, 1, -1, -1);
        Check.due("of like ones the least as a number, not the most", x.worth(25, 0, 0), 1);
        Check.due("cost -1", x.worth(25, -1, 0), -1);
        Check.due("cost 10000", x.worth(25, 10000, 0), -1);
        Check.due("what 3", x.worth(25, 0, 3), -1);
        Check.due("day 401", x.worth(401, 0, 0), -1);
        Check.due("day 400", x.worth(400, 0, 1), 5000);
    }

    private static void one() {
        RanOut x = claims("term 20 days from done;renew ask when kind<3;renew pay;term 9 days from due;", 5);
        Check.due("no act", x.one(25, 0), -1);
        Check.due("none more", x.one(25, 1), 0);
        x.act(1, 4, 10, 0, 3, 4, -1);
        Check.due("it keeps none", x.one(25, 0), -1);
        x.act(2, 4, 10, 0, 0, 3, 4);
        Check.due("it keeps one", x.one(25, 0), 2);
        x.act(5, 4, 10, 0, 0, 1, -1);
        x.act(4, 5, 6, 0, 3, 4, -1);
        Check.due("the least of two that keep two", x.one(25, 0), 4);
        Check.due("two", x.one(25, 1), 2);
        Check.due("later", x.one(27, 0), 5);
        Check.due("later", x.one(31, 1), 0);
        Check.due("all are alive without", x.one(20, 0), -1);
        Check.due("what 2", x.one(25, 2), -1);
        Check.due("day 401", x.one(401, 0), -1);
        x = Check.with("term 14 days from done when kind=0;term 20 days from done;renew ask;long 12 days from done when kind=1 and ran<5;");
        x.claim(0, 0, 1, 0, 0, 0);
        x.claim(0, 1, 1, 0, 0, 0);
        x.claim(0, 0, 1, 0, 0, 0);
        x.act(0, 4, 10, 0, 0, 1, -1);
        Check.due("one kept, one lost", x.one(15, 0), -1);
        Check.due("one kept, one lost", x.one(15, 1), 0);
        x.act(3, 4, 10, 0, 0, 1, 2);
        Check.due("two kept, one lost", x.one(15, 0), 3);
        Check.due("one more", x.one(15, 1), 1);
    }

    private static void pay() {
        RanOut x = Check.with("term 20 days from done;renew pay when kind<5;stop pay when kind=5;long 50 days from done;");
        x.claim(0, 0, 1, 0, 0, 0);
        x.claim(0, 5, 1, 0, 0, 0);
        x.claim(0, 6, 1, 0, 0, 0);
        x.claim(0, 0, 1, 0, 0, 0);
        x.fact(3, 7, 30, 30);
        x.claim(1, 0, 1, 0, 0, 0);
        x.place(1, 7);
        x.claim(0, 0, 1, 100, 100, 100);
        Check.due("on day 0, when nothing ran", x.pay(0), 0);
        x.today(12);
        Check.due("renewed", x.pay(0), 12);
        Check.due("stopped for a day", x.pay(1), 1);
        Check.due("nothing", x.pay(2), 0);
        Check.due("it lives to its suit then", x.pay(3), 99999);
        Check.due("it has none", x.pay(4), 0);
        Check.due("not yet done", x.pay(5), 0);
        Check.due("no such claim", x.pay(6), -100000);
        Check.due("no such claim", x.pay(-1), -100000);
        x.fact(0, 5, 14, 14);
        Check.due("paid later anyhow", x.pay(0), 0);
        x.today(20);
        Check.due("on the last day", x.pay(3), 99999);
        x.today(21);
        Check.due("dead", x.pay(2), 0);
        Check.due("dead", x.pay(3), 0);
        x.fact(0, 5, 34, 34);
        x.today(40);
        Check.due("the longest end", x.pay(0), 0);
        x.fact(0, 7, 40, 40);
        Check.due("kept", x.pay(0), 0);
        x = Check.with("term 30 days from done when kind=0 and ran<15;term 40 days from done when ran>14;renew pay;renew ask;long 33 days from done when ran<5;");
        x.claim(0, 0, 1, 0, 0, 0);
        x.today(30);
        Check.due("as told", x.last(0), 40);
        Check.due("earlier by paying", x.pay(0), -7);
    }

    private static void contest() {
        RanOut x = claims("term 20 days from done;renew ask;renew letter;", 3);
        x.fact(0, 4, 10, 10);
        x.fact(1, 4, 10, 10);
        x.fact(2, 6, 10, 10);
        Check.due("none contested, none wanted", x.contest(25, 2, 0), 0);
        for (int c = 0; c < 3; c++) {
            x.want(c, true);
            x.doubt(c, 0, 6);
        }
        x.act(0, 4, 15, 5, 0, -1, -1);
        x.act(1, 4, 15, 7, 1, -1, -1);
        x.act(2, 4, 15, 7, 2, -1, -1);
        Check.due("none taken away", x.contest(25, 0, 0), 0);
        Check.due("no set", x.contest(25, 0, 10), -1);
        Check.due("one", x.contest(25, 1, 0), 7);
        Check.due("the first of two like ones", x.contest(25, 1, 10), 12);
        Check.due("no second", x.contest(25, 1, 11), -1);
        Check.due("two", x.contest(25, 2, 0), 14);
        Check.due("their first", x.contest(25, 2, 10), 12);
        Check.due("their second", x.contest(25, 2, 11), 24);
        Check.due("no third", x.contest(25, 2, 12), -1);
        x.act(3, 4, 15, 8, 1, 2, -1);
        Check.due("two, the first by claim", x.contest(25, 2, 0), 12);
        Check.due("their first", x.contest(25, 2, 10), 0);
        Check.due("their second", x.contest(25, 2, 11), 12);
        x.act(0, -1, 0, 0, 0, 0, 0);
        Check.due("none can keep it", x.contest(25, 1, 0), 9999);
        Check.due("by the first", x.contest(25, 1, 10), 0);
        Check.due("the fewest", x.contest(25, 2, 11), -1);
        Check.due("none can keep all anyhow", x.contest(40, 2, 0), 9999);
        Check.due("by no set", x.contest(40, 2, 10), -1);
        Check.due("sooner nothing matters", x.contest(20, 2, 0), 0);
        Check.due("what 1", x.contest(25, 2, 1), -1);
        Check.due("what 9", x.contest(25, 2, 9), -1);
        Check.due("what -1", x.contest(25, 2, -1), -1);
        Check.due("k 3", x.contest(25, 3, 0), -1);
        Check.due("k -1", x.contest(25, -1, 0), -1);
        Check.due("day 401", x.contest(401, 0, 0), -1);
        Check.due("day 400", x.contest(400, 0, 0), 9999);
    }

    private static void contestPairs() {
        RanOut x = claims("term 20 days from done;renew ask;", 2);
        x.fact(0, 0, 0, 0);
        x.fact(0, 4, 10, 10);
        x.fact(0, 4, 11, 11);
        x.doubt(0, 1, 6);
        x.doubt(0, 2, 6);
        x.fact(1, 4, 11, 11);
        x.doubt(1, 0, 6);
        x.want(0, true);
        x.act(4, 4, 12, 30, 0, -1, -1);
        Check.due("either keeps it", x.contest(25, 1, 0), 0);
        Check.due("no set", x.contest(25, 1, 10), -1);
        Check.due("both of one claim", x.contest(25, 2, 0), 30);
        Check.due("the first", x.contest(25, 2, 10), 1);
        Check.due("the second", x.contest(25, 2, 11), 2);
        x.want(1, true);
        Check.due("one that none can keep", x.contest(25, 2, 0), 9999);
        Check.due("it alone", x.contest(25, 2, 10), 12);
        Check.due("it alone", x.contest(25, 2, 11), -1);
    }

    private static void beside() {
        RanOut x = Check.with("term 20 days from done;");
        Check.tell(x, 1, "term 10 days from done;");
        Check.tell(x, 2, "term 30 days from done;");
        x.claim(0, 0, 0, 0, 0, 0);
        x.claim(0, 0, 0, 5, 5, 5);
        x.claim(1, 0, 0, 0, 0, 0);
        x.claim(1, 0, 0, 0, 0, 0);
        x.place(1, 1);
        x.change(1, 8, 2, false);
        x.fact(3, 7, 10, 10);
        x.today(15);
        Check.due("law 1 in place of 0", x.beside(1, 0, 0), 1);
        Check.due("law 1 in place of 0", x.beside(1, 0, 1), 0);
        Check.due("law 0 in place of 1", x.beside(0, 1, 0), 0);
        Check.due("law 0 in place of 1", x.beside(0, 1, 1), 1);
        Check.due("law 1 in place of 2, which is nobody's", x.beside(1, 2, 0), 0);
        Check.due("itself", x.beside(0, 0, 0), 0);
        x.change(1, 9, 2, true);
        Check.due("alive by the change", x.beside(1, 2, 0), 1);
        Check.due("all dead ones", x.beside(2, 1, 1), 0);
        x.today(16);
        Check.due("both of place 0", x.beside(1, 0, 0), 2);
        int[][] wrong = {{-1, 0, 0}, {8, 0, 0}, {0, -1, 0}, {0, 8, 0}, {0, 0, 2}, {0, 0, -1}};
        for (int[] w : wrong) {
            Check.due("beside that can't be", x.beside(w[0], w[1], w[2]), -1);
        }
    }

    /** All rows full: sixty claims, twelve facts, six contested, six acts of three claims. */
    private static void full() {
        RanOut x = Check.with("term 20 days from done;renew ask;stop child;");
        for (int c = 0; c < 60; c++) {
            x.claim(c % 6, c % 10, 100, 0, 0, 0);
            x.want(c, true);
        }
        for (int c = 57; c < 60; c++) {
            for (int f = 0; f < 12; f++) {
                Check.due("fact", x.fact(c, f < 10 ? 0 : 4, 10, 10), f);
            }
            Check.due("doubt", x.doubt(c, 0, 5), true);
            Check.due("doubt", x.doubt(c, 1, 5), true);
            Check.due("contested", x.doubt(c, 10, 6), true);
            Check.due("contested", x.doubt(c, 11, 6), true);
        }
        for (int k = 0; k < 6; k++) {
            x.act(k, 4, 15 + k, 999, 57, 58, 59);
        }
        x.want(56, false);
        Check.due("all live at 20", x.cheapest(20, 0), 0);
        Check.due("contested in the last claim", x.contest(20, 2, 0), 0);
        for (int c = 0; c < 57; c++) {
            x.want(c, false);
        }
        Check.due("the three live at 30", x.cheapest(30, 0), 0);
        Check.due("by an act without both askings", x.contest(30, 2, 0), 999);
        Check.due("of the first", x.contest(30, 2, 10), 12 * 57 + 10);
        Check.due("of the first", x.contest(30, 2, 11), 12 * 57 + 11);
        Check.due("later by the last act alone", x.cheapest(40, 0), 32);
        Check.due("its cost", x.cheapest(40, 1), 999);
        Check.due("three live by it", x.one(40, 1), 3);
        Check.due("worth", x.worth(40, 9999, 1), 300);
        Check.due("span: the child is there or a day later, the asking not", x.span(59, 0), 21);
        Check.due("span: two children on days of their own behind the asking", x.span(59, 1), 32);
        Check.due("either is enough", x.span(59, 2), 0);
        Check.due("alive", x.look(3), 60);
        Check.due("sum", x.look(4), 6000);
        Check.due("beside", x.beside(1, 0, 0), 0);
        x.change(5, 5, 7, true);
        Check.due("the ten of place 5", x.changed(5, 0), 10);
        Check.due("paid on day 0", x.pay(59), 0);
    }
}
