import java.util.function.ToIntFunction;

/**
 * Every call that can't be, in each of its arguments just too small, just too large, and at the
 * ends of int: it answers what the document says, and changes nothing.
 */
public final class RefusedTest {
    private static final int MIN = Integer.MIN_VALUE;
    private static final int MAX = Integer.MAX_VALUE;

    public static void main(String[] args) {
        tellings();
        claims();
        facts();
        doubts();
        acts();
        questions();
        plans();
        Check.leave("RefusedTest");
    }

    /** An object in which something of everything is told: two claims, TODAY 10. */
    private static RanOut busy() {
        RanOut x = Check.with("term 20 days from done;renew ask;stop child;roll;");
        Check.tell(x, 1, "term 30 days from known;renew pay;");
        x.holiday(21);
        x.place(1, 1);
        x.change(0, 15, 1, true);
        x.change(1, 8, 0, false);
        x.claim(0, 1, 100, 0, 0, 0);
        x.claim(1, 2, 30, 3, 4, 5);
        x.fact(0, 4, 8, 8);
        x.fact(0, 0, 9, 12);
        x.fact(1, 5, 9, 9);
        x.doubt(0, 0, 6);
        x.doubt(0, 1, 3);
        x.doubt(1, 0, 6);
        x.want(0, true);
        x.today(10);
        x.act(0, 4, 12, 7, 0, 1, -1);
        x.act(3, 5, 14, 5, 1, -1, -1);
        Check.tell(x, 2, "roll");
        return x;
    }

    private static int one(boolean is) {
        return is ? 1 : 0;
    }

    private static void refused(String call, ToIntFunction<RanOut> made, int want) {
        RanOut x = busy();
        Check.due(call, made.applyAsInt(x), want);
        Check.alike(call, x, busy());
    }

    /** Like refused(), for each of these in place of one argument. */
    private static void each(String call, int[] values, int want, Call made) {
        for (int value : values) {
            refused(call + " with " + value, x -> made.answer(x, value), want);
        }
    }

    private interface Call {
        int answer(RanOut x, int value);
    }

    private static int[] beyond(int first, int last) {
        return new int[] {MIN, first - 1, last + 1, MAX};
    }

    private static void tellings() {
        Check.sentence("TODAY 0 .. 2999; false if it can't be (not ahead of what it was)");
        each("today(v)", new int[] {MIN, -1, 0, 9, 3000, MAX}, 0, (x, v) -> one(x.today(v)));
        Check.sentence("A HOLIDAY (0 .. 4999); false if it can't be");
        each("holiday(v)", beyond(0, 4999), 0, (x, v) -> one(x.holiday(v)));
        Check.sentence("LAW of a PLACE from day 0 on: false if one can't be");
        each("place(v, 1)", beyond(0, 5), 0, (x, v) -> one(x.place(v, 1)));
        each("place(0, v)", beyond(0, 7), 0, (x, v) -> one(x.place(0, v)));
        Check.sentence("A CHANGE of a PLACE from a day (1 .. 2999) on: false if one can't be");
        each("change(v, 20, 1, true)", beyond(0, 5), 0, (x, v) -> one(x.change(v, 20, 1, true)));
        each("change(2, v, 1, true)", beyond(1, 2999), 0, (x, v) -> one(x.change(2, v, 1, true)));
        each("change(0, 20, v, true)", beyond(0, 7), 0, (x, v) -> one(x.change(0, 20, v, true)));
        Check.sentence("false if it is not behind the one ahead");
        each("change(0, v, 0, true)", new int[] {1, 14, 15}, 0, (x, v) -> one(x.change(0, v, 0, true)));
        each("change(0, v, 0, false)", new int[] {1, 14, 15}, 0, (x, v) -> one(x.change(0, v, 0, false)));
        Check.sentence("false, changing nothing, if it has not so many, or n is below 0");
        each("end(v)", new int[] {MIN, -1, 1, MAX}, 0, (x, v) -> one(x.end(v)));
        Check.sentence("fault(): NONE for another what");
        each("fault(v)", beyond(0, 1), -1, (x, v) -> x.fault(v));
        Check.sentence("want(): false if there is none such");
        each("want(v, true)", beyond(0, 1), 0, (x, v) -> one(x.want(v, true)));
        each("want(v, false)", beyond(0, 1), 0, (x, v) -> one(x.want(v, false)));
        Check.sentence("THE IMAGE is gone back to: false if there is none");
        refused("image(false)", x -> one(x.image(false)), 0);
    }

    private static void claims() {
        Check.sentence("a PLACE, a KIND 0 .. 9, a SUM 0 .. 9999, days DONE, KNOWN, DUE (0 .. 2999)");
        each("claim(v, ..)", beyond(0, 5), -1, (x, v) -> x.claim(v, 0, 0, 5, 5, 5));
        each("claim with kind v", beyond(0, 9), -1, (x, v) -> x.claim(0, v, 0, 5, 5, 5));
        each("claim with sum v", beyond(0, 9999), -1, (x, v) -> x.claim(0, 0, v, 5, 5, 5));
        each("claim done on v", beyond(0, 2999), -1, (x, v) -> x.claim(0, 0, 0, v, 2999, 2999));
        each("claim done, known and due on v", beyond(0, 2999), -1, (x, v) -> x.claim(0, 0, 0, v, v, v));
        each("claim known on v", beyond(0, 2999), -1, (x, v) -> x.claim(0, 0, 0, 0, v, 0));
        each("claim due on v", beyond(0, 2999), -1, (x, v) -> x.claim(0, 0, 0, 0, 0, v));
        Check.sentence("KNOWN and DUE not ahead of DONE");
        each("claim done on 5, known on v", new int[] {0, 4}, -1, (x, v) -> x.claim(0, 0, 0, 5, v, 5));
        each("claim done on 5, due on v", new int[] {0, 4}, -1, (x, v) -> x.claim(0, 0, 0, 5, 5, v));
    }

    private static void facts() {
        Check.sentence("A FACT of a claim: NONE if one can't be");
        each("fact(v, ..)", beyond(0, 1), -1, (x, v) -> x.fact(v, 0, 11, 12));
        each("fact of sort v", beyond(0, 7), -1, (x, v) -> x.fact(0, v, 11, 11));
        Check.sentence("a day from, a day to (0 .. 2999, not ahead of it)");
        each("fact from v", new int[] {MIN, -1, 13, 3000, MAX}, -1, (x, v) -> x.fact(0, 0, v, 12));
        each("fact to v", new int[] {MIN, -1, 10, 3000, MAX}, -1, (x, v) -> x.fact(0, 0, 11, v));
        each("fact from v to v", beyond(0, 2999), -1, (x, v) -> x.fact(0, 0, v, v));
        Check.sentence("one alone for 4 .. 7: the same");
        each("fact of sort v on 11 and 12", new int[] {4, 5, 6, 7}, -1, (x, v) -> x.fact(0, v, 11, 12));
    }

    private static void doubts() {
        Check.sentence("A FACT is sure (0), in DOUBT by n days (1 .. 5), or CONTESTED (6): false if one can't be");
        each("doubt(v, 0, 1)", beyond(0, 1), 0, (x, v) -> one(x.doubt(v, 0, 1)));
        each("doubt(0, v, 1)", beyond(0, 1), 0, (x, v) -> one(x.doubt(0, v, 1)));
        each("doubt(1, v, 0)", beyond(0, 0), 0, (x, v) -> one(x.doubt(1, v, 0)));
        each("doubt(0, 0, v)", beyond(0, 6), 0, (x, v) -> one(x.doubt(0, 0, v)));
    }

    private static void acts() {
        Check.sentence("An ACT k (sort NONE: none any more): false if one can't be");
        each("act(v, ..)", beyond(0, 5), 0, (x, v) -> one(x.act(v, 4, 11, 1, 0, -1, -1)));
        each("act(v, NONE, ..)", beyond(0, 5), 0, (x, v) -> one(x.act(v, -1, 11, 1, 0, -1, -1)));
        Check.sentence("a SORT 4 .. 7, a day (TODAY .. 2999), a COST 0 .. 999");
        each("act of sort v", new int[] {MIN, -2, 0, 3, 8, MAX}, 0, (x, v) -> one(x.act(0, v, 11, 1, 0, -1, -1)));
        each("act on v", new int[] {MIN, -1, 0, 9, 3000, MAX}, 0, (x, v) -> one(x.act(0, 4, v, 1, 0, -1, -1)));
        each("act at cost v", beyond(0, 999), 0, (x, v) -> one(x.act(0, 4, 11, v, 0, -1, -1)));
        Check.sentence("CLAIMS (up to three of them); claims b, c NONE: fewer");
        each("act with a = v", new int[] {MIN, -2, -1, 2, MAX}, 0, (x, v) -> one(x.act(0, 4, 11, 1, v, -1, -1)));
        each("act with b = v", new int[] {MIN, -2, 2, MAX}, 0, (x, v) -> one(x.act(0, 4, 11, 1, 0, v, -1)));
        each("act with c = v", new int[] {MIN, -2, 2, MAX}, 0, (x, v) -> one(x.act(0, 4, 11, 1, 0, 1, v)));
        refused("act with b, c alone", x -> one(x.act(0, 4, 11, 1, -1, 0, 1)), 0);
        Check.sentence("unlike ones");
        refused("act with a = b", x -> one(x.act(0, 4, 11, 1, 0, 0, -1)), 0);
        refused("act with a = c", x -> one(x.act(0, 4, 11, 1, 0, 1, 0)), 0);
        refused("act with a = c, b NONE", x -> one(x.act(0, 4, 11, 1, 0, -1, 0)), 0);
        refused("act with b = c", x -> one(x.act(0, 4, 11, 1, 0, 1, 1)), 0);
    }

    private static void questions() {
        Check.sentence("last(): NONE - 2 if there is no such claim");
        each("last(v)", beyond(0, 1), -3, (x, v) -> x.last(v));
        Check.sentence("step(): NONE - 9 if one can't be, or another what");
        each("step(v, 5, 0)", beyond(0, 1), -10, (x, v) -> x.step(v, 5, 0));
        each("step(0, v, 0)", beyond(0, 4999), -10, (x, v) -> x.step(0, v, 0));
        each("step(0, 5, v)", beyond(0, 3), -10, (x, v) -> x.step(0, 5, v));
        Check.sentence("span(): NONE - 9 if there is no such claim, or another what");
        each("span(v, 0)", beyond(0, 1), -10, (x, v) -> x.span(v, 0));
        each("span(0, v)", beyond(0, 2), -10, (x, v) -> x.span(0, v));
        Check.sentence("changed(): NONE if there was no CHANGE, one can't be, or another what");
        each("changed(v, 0)", new int[] {MIN, -1, 2, 5, 6, MAX}, -1, (x, v) -> x.changed(v, 0));
        each("changed(0, v)", beyond(0, 1), -1, (x, v) -> x.changed(0, v));
        Check.sentence("pay(): NONE - 99999 if there is no such claim");
        each("pay(v)", beyond(0, 1), -100000, (x, v) -> x.pay(v));
        Check.sentence("beside(): NONE if one can't be, or another what");
        each("beside(v, 0, 0)", beyond(0, 7), -1, (x, v) -> x.beside(v, 0, 0));
        each("beside(0, v, 0)", beyond(0, 7), -1, (x, v) -> x.beside(0, v, 0));
        each("beside(0, 1, v)", beyond(0, 1), -1, (x, v) -> x.beside(0, 1, v));
        Check.sentence("look(): NONE for another what");
        each("look(v)", new int[] {MIN, -1, 8, 9, 18, 19, 26, 29, 32, 89, 90, MAX}, -1, (x, v) -> x.look(v));
    }

    private static void plans() {
        int[] days = {MIN, -1, 0, 9, 411, MAX};
        Check.sentence("CHEAPEST to a day (TODAY .. TODAY + 400); NONE if one can't be, or another what");
        each("cheapest(v, 0)", days, -1, (x, v) -> x.cheapest(v, 0));
        each("cheapest(12, v)", beyond(0, 1), -1, (x, v) -> x.cheapest(12, v));
        Check.sentence("WORTH to a day for so much (0 .. 9999): NONE if one can't be, or another what");
        each("worth(v, 9, 0)", days, -1, (x, v) -> x.worth(v, 9, 0));
        each("worth(12, v, 0)", beyond(0, 9999), -1, (x, v) -> x.worth(12, v, 0));
        each("worth(12, 9, v)", beyond(0, 2), -1, (x, v) -> x.worth(12, 9, v));
        Check.sentence("ONE to a day: NONE if one can't be, or another what");
        each("one(v, 1)", days, -1, (x, v) -> x.one(v, 1));
        each("one(12, v)", beyond(0, 1), -1, (x, v) -> x.one(12, v));
        Check.sentence("CONTEST to a day for k (0 .. 2): NONE if there is none such, one can't be, or another what");
        each("contest(v, 1, 0)", days, -1, (x, v) -> x.contest(v, 1, 0));
        each("contest(12, v, 0)", beyond(0, 2), -1, (x, v) -> x.contest(12, v, 0));
        each("contest(12, 2, v)", new int[] {MIN, -1, 1, 9, 10, 11, 12, 13, MAX}, -1, (x, v) -> x.contest(12, 2, v));
    }
}
