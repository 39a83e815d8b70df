/** A test for each sentence that names an edge of ACTS and of what hangs on them: the fourth part of "Terms", promises 19 to 24. */
public final class PlanEdgesTest {
    public static void main(String[] args) {
        actIsFact();
        actsAboveTwelve();
        actOnDead();
        aliveAtDay();
        aliveWithoutEnd();
        days();
        cheapestNone();
        cheapestLeastCost();
        cheapestFewest();
        cheapestLeastNumber();
        cheapestAll();
        worthCosts();
        worthLeastCost();
        worthLeastNumber();
        worthOfAll();
        worthLosing();
        worthByOne();
        oneMost();
        oneNone();
        payDays();
        payZero();
        payForEver();
        payBelowZero();
        payAboveTwelve();
        contestSets();
        contestNone();
        contestFewest();
        contestFirst();
        contestNumbers();
        contestBehindToday();
        besideCounts();
        besideEverywhere();
        besideAtDay();
        besideFourChanges();
        Check.leave("PlanEdgesTest");
    }

    /** That many claims of sum 10, 20, .. under that law, done on day 0. */
    private static RanOut claims(String law, int count) {
        RanOut x = Check.with(law);
        for (int c = 0; c < count; c++) {
            x.claim(0, c % 10, 10 * (c + 1), 0, 0, 0);
        }
        return x;
    }

    private static void cheapest(RanOut x, int day, int set, int cost) {
        Check.due("cheapest(" + day + ", 0)", x.cheapest(day, 0), set);
        Check.due("cheapest(" + day + ", 1)", x.cheapest(day, 1), cost);
    }

    private static void worth(RanOut x, int day, int cost, int set, int sum, int costs) {
        Check.due("worth(" + day + ", " + cost + ", 0)", x.worth(day, cost, 0), set);
        Check.due("worth(" + day + ", " + cost + ", 1)", x.worth(day, cost, 1), sum);
        Check.due("worth(" + day + ", " + cost + ", 2)", x.worth(day, cost, 2), costs);
    }

    private static void one(RanOut x, int day, int act, int more) {
        Check.due("one(" + day + ", 0)", x.one(day, 0), act);
        Check.due("one(" + day + ", 1)", x.one(day, 1), more);
    }

    private static void contest(RanOut x, int day, int k, int cost, int first, int second) {
        Check.due("contest(" + day + ", " + k + ", 0)", x.contest(day, k, 0), cost);
        Check.due("contest(" + day + ", " + k + ", 10)", x.contest(day, k, 10), first);
        Check.due("contest(" + day + ", " + k + ", 11)", x.contest(day, k, 11), second);
        Check.due("contest(" + day + ", " + k + ", 12)", x.contest(day, k, 12), -1);
    }

    private static void beside(RanOut x, int a, int b, int dead, int alive) {
        Check.due("beside(" + a + ", " + b + ", 0)", x.beside(a, b, 0), dead);
        Check.due("beside(" + a + ", " + b + ", 1)", x.beside(a, b, 1), alive);
    }

    private static void actIsFact() {
        Check.sentence("An ACT that is done is a FACT on its day of each of its CLAIMS");
        RanOut x = claims("term 20 days from done;renew ask;renew pay when ran>9;stop letter;", 4);
        x.act(0, 4, 15, 1, 0, 1, 2);
        worth(x, 35, 9, 1, 60, 1);
        worth(x, 36, 9, 0, 0, 0);
        one(x, 35, 0, 3);
        x.act(0, 4, 15, 1, 3, -1, -1);
        worth(x, 35, 9, 1, 40, 1);
        x.act(0, 5, 10, 1, 0, 1, -1);
        Check.due("its line's B is asked on its day: 9 ran", x.one(21, 1), 0);
        x.act(0, 5, 11, 1, 0, 1, -1);
        Check.due("10 ran", x.one(21, 1), 2);
        x.act(0, 6, 11, 1, 0, 1, -1);
        Check.due("it stops", x.one(21, 1), 2);
        Check.due("for a day", x.one(22, 1), 0);
        x.act(0, 7, 20, 1, 0, -1, -1);
        Check.due("a suit on the LAST DAY", x.one(400, 1), 1);
        Check.due("an ACT that is not done does nothing", x.last(0), 20);
        Check.due("an ACT is no FACT yet", x.look(30), 0);
        x.act(0, 7, 0, 1, 0, -1, -1);
        Check.due("a suit on TODAY", x.one(400, 1), 1);
        x.claim(0, 0, 0, 5, 5, 5);
        x.act(0, 7, 4, 1, 4, -1, -1);
        Check.due("ahead of DONE it does nothing", x.one(30, 1), 0);
    }

    private static void actsAboveTwelve() {
        Check.sentence("(as the last ones, also above 12)");
        RanOut x = claims("term 20 days from done;stop ask;stop child;", 1);
        for (int f = 0; f < 12; f++) {
            x.fact(0, 0, f + 1, f + 1);
        }
        Check.due("twelve days STOPPED", x.last(0), 32);
        x.want(0, true);
        for (int k = 0; k < 6; k++) {
            x.act(k, 4, 20 + k, 1, 0, -1, -1);
        }
        for (int n = 0; n <= 6; n++) {
            cheapest(x, 32 + n, (1 << n) - 1, n);
        }
        cheapest(x, 39, -1, -1);
    }

    private static void actOnDead() {
        Check.sentence("one on a day on which a claim is DEAD does nothing");
        RanOut x = claims("term 20 days from done;renew ask;", 1);
        x.want(0, true);
        x.act(0, 4, 21, 0, 0, -1, -1);
        x.act(1, 7, 21, 0, 0, -1, -1);
        cheapest(x, 21, -1, -1);
        one(x, 21, -1, 0);
        worth(x, 21, 9999, 0, 0, 0);
        x.act(2, 4, 20, 0, 0, -1, -1);
        cheapest(x, 21, 4, 0);
        Check.due("by it the claim is not DEAD on 21: the ask counts", x.cheapest(41, 0), 5);
        Check.due("and the suit", x.cheapest(42, 0), 6);
        x.today(21);
        x.act(0, 4, 21, 0, 0, -1, -1);
        cheapest(x, 21, -1, -1);
        cheapest(x, 421, -1, -1);
    }

    private static void aliveAtDay() {
        Check.sentence("ALIVE at a day: KEPT, or its LAST DAY is not ahead of that day");
        RanOut x = claims("term 20 days from done;", 1);
        x.want(0, true);
        cheapest(x, 19, 0, 0);
        cheapest(x, 20, 0, 0);
        cheapest(x, 21, -1, -1);
        worth(x, 20, 0, 0, 10, 0);
        worth(x, 21, 0, 0, 0, 0);
        x.fact(0, 7, 20, 20);
        cheapest(x, 21, 0, 0);
        cheapest(x, 400, 0, 0);
        worth(x, 400, 0, 0, 10, 0);
    }

    private static void aliveWithoutEnd() {
        Check.sentence("Without an end up to day 4999 it has none: it is ALIVE at every day");
        RanOut x = claims("", 1);
        x.want(0, true);
        x.today(2999);
        Check.due("look(3)", x.look(3), 1);
        cheapest(x, 3399, 0, 0);
        worth(x, 3399, 0, 0, 10, 0);
        beside(x, 1, 0, 0, 0);
    }

    private static void days() {
        Check.sentence("CHEAPEST to a day (TODAY .. TODAY + 400); the others to a day alike");
        int[] todays = {0, 7, 2999};
        for (int today : todays) {
            RanOut x = claims("", 1);
            x.today(today);
            int[] fine = {today, today + 400};
            for (int day : fine) {
                cheapest(x, day, 0, 0);
                worth(x, day, 0, 0, 10, 0);
                one(x, day, -1, 0);
                contest(x, day, 2, 0, -1, -1);
            }
            int[] wrong = {today - 1, today + 401};
            for (int day : wrong) {
                cheapest(x, day, -1, -1);
                worth(x, day, 0, -1, -1, -1);
                one(x, day, -1, -1);
                contest(x, day, 2, -1, -1, -1);
            }
        }
    }

    private static void cheapestNone() {
        Check.sentence("cheapest(): NONE if there is none");
        RanOut x = claims("term 20 days from done;renew ask;", 2);
        cheapest(x, 400, 0, 0);
        x.want(0, true);
        cheapest(x, 21, -1, -1);
        x.act(0, 4, 10, 5, 1, -1, -1);
        cheapest(x, 21, -1, -1);
        x.act(1, 4, 10, 5, 0, -1, -1);
        cheapest(x, 21, 2, 5);
        x.want(1, true);
        cheapest(x, 21, 3, 10);
        x.act(0, -1, 0, 0, 0, 0, 0);
        cheapest(x, 21, -1, -1);
        x.want(1, false);
        cheapest(x, 21, 2, 5);
    }

    private static void cheapestLeastCost() {
        Check.sentence("CHEAPEST: that with the least COST together");
        RanOut x = claims("term 20 days from done;renew ask;", 3);
        for (int c = 0; c < 3; c++) {
            x.want(c, true);
            x.act(c, 4, 10, 333, c, -1, -1);
        }
        x.act(5, 4, 10, 999, 0, 1, 2);
        cheapest(x, 25, 32, 999);
        x.act(2, 4, 10, 332, 2, -1, -1);
        cheapest(x, 25, 7, 998);
        x.act(5, 4, 10, 997, 0, 1, 2);
        cheapest(x, 25, 32, 997);
    }

    private static void cheapestFewest() {
        Check.sentence("CHEAPEST: .. then the fewest");
        RanOut x = claims("term 20 days from done;renew ask;", 2);
        x.want(0, true);
        x.want(1, true);
        x.act(0, 4, 10, 4, 0, -1, -1);
        x.act(1, 4, 10, 5, 1, -1, -1);
        x.act(5, 4, 10, 9, 1, 0, -1);
        cheapest(x, 25, 32, 9);
        x.act(5, 4, 10, 0, 1, 0, -1);
        x.act(0, 4, 10, 0, 0, -1, -1);
        x.act(1, 4, 10, 0, 1, -1, -1);
        cheapest(x, 25, 32, 0);
        Check.due("none that costs nothing is done for nothing", x.cheapest(20, 0), 0);
    }

    private static void cheapestLeastNumber() {
        Check.sentence("CHEAPEST: .. then the least as a number");
        RanOut x = claims("term 20 days from done;renew ask;", 2);
        x.want(0, true);
        x.want(1, true);
        int[] of = {0, 0, 1, 1, 0, 1};
        for (int k = 0; k < 6; k++) {
            x.act(k, 4, 10, 3, of[k], -1, -1);
        }
        cheapest(x, 25, 5, 6);
        x.act(0, -1, 0, 0, 0, 0, 0);
        cheapest(x, 25, 6, 6);
        x.act(2, -1, 0, 0, 0, 0, 0);
        cheapest(x, 25, 10, 6);
        x.act(1, -1, 0, 0, 0, 0, 0);
        cheapest(x, 25, 24, 6);
        x.act(3, -1, 0, 0, 0, 0, 0);
        cheapest(x, 25, 48, 6);
    }

    private static void cheapestAll() {
        Check.sentence("CHEAPEST by all six ACTS at the greatest COST, of sixty claims");
        RanOut x = claims("term 20 days from done;renew ask;", 60);
        for (int k = 0; k < 6; k++) {
            x.act(k, 4, 20, 999, 3 * k, 3 * k + 1, 3 * k + 42);
            x.want(3 * k, true);
        }
        cheapest(x, 40, 63, 5994);
        x.want(59, true);
        x.want(57, true);
        cheapest(x, 40, -1, -1);
        x.want(59, false);
        cheapest(x, 40, 63, 5994);
        worth(x, 40, 5994, 63, 4110, 5994);
        worth(x, 40, 9999, 63, 4110, 5994);
        worth(x, 40, 998, 0, 0, 0);
    }

    private static void worthCosts() {
        Check.sentence("WORTH for so much COST: the set with the greatest SUM of claims ALIVE at the day, not above that COST");
        RanOut x = claims("term 20 days from done;renew ask;", 3);
        x.act(1, 4, 10, 5, 0, -1, -1);
        x.act(3, 4, 10, 7, 1, -1, -1);
        x.act(4, 4, 10, 999, 2, -1, -1);
        worth(x, 25, 0, 0, 0, 0);
        worth(x, 25, 4, 0, 0, 0);
        worth(x, 25, 5, 2, 10, 5);
        worth(x, 25, 6, 2, 10, 5);
        worth(x, 25, 7, 8, 20, 7);
        worth(x, 25, 11, 8, 20, 7);
        worth(x, 25, 12, 10, 30, 12);
        worth(x, 25, 998, 10, 30, 12);
        worth(x, 25, 999, 10, 30, 12);
        worth(x, 25, 1005, 18, 40, 1004);
        worth(x, 25, 1006, 24, 50, 1006);
        worth(x, 25, 1011, 26, 60, 1011);
        worth(x, 25, 9999, 26, 60, 1011);
        worth(x, 20, 9999, 0, 60, 0);
        Check.due("cost -1", x.worth(25, -1, 0), -1);
        Check.due("cost 10000", x.worth(25, 10000, 0), -1);
    }

    private static void worthLeastCost() {
        Check.sentence("WORTH: .. then the least COST");
        RanOut x = claims("term 20 days from done;renew ask;", 2);
        x.act(0, 4, 10, 8, 0, -1, -1);
        x.act(5, 4, 10, 7, 0, -1, -1);
        worth(x, 25, 99, 32, 10, 7);
        x.act(3, 4, 10, 0, 1, -1, -1);
        worth(x, 25, 99, 40, 30, 7);
        worth(x, 25, 0, 8, 20, 0);
    }

    private static void worthLeastNumber() {
        Check.sentence("WORTH: .. then the least as a number");
        RanOut x = claims("term 20 days from done;renew ask;", 2);
        x.act(0, 4, 10, 3, 0, -1, -1);
        x.act(1, 4, 10, 3, 1, -1, -1);
        x.act(4, 4, 10, 6, 0, 1, -1);
        Check.due("3 is less than 16, though more ACTS", x.worth(25, 99, 0), 3);
        x.act(2, 4, 10, 0, 0, -1, -1);
        x.act(3, 4, 10, 0, 0, -1, -1);
        x.act(1, -1, 0, 0, 0, 0, 0);
        x.act(4, -1, 0, 0, 0, 0, 0);
        worth(x, 25, 99, 4, 10, 0);
        x = Check.with("term 20 days from done;renew ask;");
        x.claim(0, 0, 0, 0, 0, 0);
        x.act(0, 4, 10, 0, 0, -1, -1);
        Check.due("a claim of SUM 0 is worth nothing", x.worth(25, 99, 0), 0);
    }

    private static void worthOfAll() {
        Check.sentence("SUM of claims (all of them): WANTED or not; sixty of the greatest");
        RanOut x = Check.with("term 20 days from done;renew ask;");
        for (int c = 0; c < 60; c++) {
            x.claim(0, 0, 9999, 0, 0, 0);
        }
        x.want(7, true);
        worth(x, 20, 0, 0, 599940, 0);
        x.act(5, 4, 20, 1, 57, 58, 59);
        worth(x, 21, 9999, 32, 29997, 1);
    }

    private static void worthLosing() {
        Check.sentence("WORTH: an ACT may cost claims their life: the set without it is worth more");
        RanOut x = Check.with("term 20 days from done;renew ask;long 12 days from done when kind=1 and ran<5;");
        x.claim(0, 0, 10, 0, 0, 0);
        x.claim(0, 1, 10, 0, 0, 0);
        x.act(0, 4, 10, 0, 0, 1, -1);
        worth(x, 20, 99, 0, 20, 0);
        worth(x, 21, 99, 1, 10, 0);
    }

    private static void worthByOne() {
        Check.sentence("WORTH: the greatest SUM, be it greater by 1 alone");
        RanOut x = Check.with("term 20 days from done;renew ask;");
        x.claim(0, 0, 500, 0, 0, 0);
        x.claim(0, 0, 502, 0, 0, 0);
        x.claim(0, 0, 1, 0, 0, 0);
        x.act(0, 4, 10, 1, 0, -1, -1);
        x.act(1, 4, 10, 9, 1, -1, -1);
        x.act(2, 4, 10, 5, 2, -1, -1);
        worth(x, 25, 5, 1, 500, 1);
        worth(x, 25, 8, 5, 501, 6);
        worth(x, 25, 9, 2, 502, 9);
        worth(x, 25, 10, 3, 1002, 10);
        worth(x, 25, 15, 7, 1003, 15);
    }

    private static void oneMost() {
        Check.sentence("ONE: the single ACT by which most claims more are ALIVE at the day than without any; of several the least");
        RanOut x = claims("term 20 days from done;renew ask;", 6);
        x.act(5, 4, 10, 0, 0, -1, -1);
        one(x, 25, 5, 1);
        x.act(4, 4, 10, 999, 1, 2, -1);
        one(x, 25, 4, 2);
        x.act(2, 4, 10, 0, 3, 4, -1);
        one(x, 25, 2, 2);
        x.act(3, 4, 10, 0, 3, 4, 5);
        one(x, 25, 3, 3);
        x.act(0, 4, 9, 0, 3, 4, 5);
        one(x, 25, 0, 3);
        one(x, 30, 3, 3);
        x.fact(3, 7, 1, 1);
        Check.due("one is ALIVE anyhow", x.one(30, 1), 2);
        Check.due("the least of those by two", x.one(30, 0), 3);
        Check.due("the least of those by two", x.one(29, 0), 0);
    }

    private static void oneNone() {
        Check.sentence("ONE: .. (NONE if by none more)");
        RanOut x = claims("term 20 days from done;renew ask;long 12 days from done when kind=1 and ran<5;", 2);
        one(x, 25, -1, 0);
        x.act(0, 5, 10, 0, 0, -1, -1);
        one(x, 25, -1, 0);
        x.act(0, 4, 10, 0, 1, -1, -1);
        one(x, 20, -1, 0);
        x.act(0, 4, 10, 0, 0, 1, -1);
        Check.due("one kept", x.one(21, 1), 1);
        Check.due("one lost", x.one(20, 1), 0);
        Check.due("so by none", x.one(20, 0), -1);
        x.act(0, -1, 0, 0, 0, 0, 0);
        one(x, 21, -1, 0);
    }

    private static void payDays() {
        Check.sentence("PAY NOTHING: .. a payment (5) TODAY more would make another LAST DAY: by how many days it is later");
        RanOut x = Check.with("term 20 days from done;renew pay when kind=0;stop pay when kind=1;");
        for (int kind = 0; kind < 3; kind++) {
            x.claim(0, kind, 1, 0, 0, 0);
        }
        int[] todays = {0, 1, 19, 20};
        for (int today : todays) {
            x.today(today);
            Check.due("renewed on " + today, x.pay(0), today);
            Check.due("stopped on " + today, x.pay(1), today == 0 ? 0 : 1);
            Check.due("no line", x.pay(2), 0);
        }
        x.fact(0, 5, 20, 20);
        Check.due("paid TODAY already", x.pay(0), 0);
        Check.due("asking leaves it", x.last(1), 20);
        Check.due("asking leaves it", x.look(31), 0);
    }

    private static void payZero() {
        Check.sentence("pay(): (0: it has none, is KEPT, or is not ALIVE TODAY without it)");
        RanOut x = Check.with("term 20 days from done when kind=0;renew pay;");
        x.claim(0, 1, 1, 0, 0, 0);
        x.claim(0, 0, 1, 0, 0, 0);
        x.fact(1, 7, 15, 15);
        x.claim(0, 0, 1, 0, 0, 0);
        x.claim(0, 0, 1, 100, 100, 100);
        x.today(20);
        Check.due("it has none", x.pay(0), 0);
        Check.due("it is KEPT", x.pay(1), 0);
        Check.due("ALIVE on its LAST DAY", x.pay(2), 20);
        Check.due("it is not DONE yet", x.pay(3), 0);
        x.today(21);
        Check.due("not ALIVE", x.pay(2), 0);
        Check.due("no such claim", x.pay(4), -100000);
    }

    private static void payForEver() {
        Check.sentence("pay(): 99999: it had one and has none, or is KEPT, then");
        RanOut x = Check.with("term 20 days from done;renew pay;");
        x.claim(0, 0, 1, 0, 0, 0);
        x.fact(0, 7, 25, 25);
        x.claim(0, 0, 1, 0, 0, 0);
        x.fact(1, 7, 36, 36);
        x.today(15);
        Check.due("it comes to its suit", x.pay(0), 99999);
        Check.due("it does not: 35 and 36", x.pay(1), 15);
        x.today(16);
        Check.due("it comes to its suit", x.pay(1), 99999);
        x = Check.with("term 20 days from done when year=0;renew pay;");
        x.claim(0, 0, 1, 340, 340, 340);
        x.today(344);
        Check.due("its LAST DAY is 360", x.last(0), 360);
        Check.due("364 by paying", x.pay(0), 4);
        x.today(345);
        Check.due("none by paying", x.pay(0), 99999);
    }

    private static void payBelowZero() {
        Check.sentence("pay(): it may be below 0");
        RanOut x = Check.with("term 20 days from done;renew pay;long 18 days from done when ran<5;");
        x.claim(0, 0, 1, 0, 0, 0);
        x.today(15);
        Check.due("without it", x.last(0), 20);
        Check.due("18 by paying", x.pay(0), -2);
        x.today(20);
        Check.due("TODAY itself: 20 and then over", x.pay(0), 1);
        x = Check.with("term 20 days from done;renew pay;long 5 days from done when ran=0;");
        x.claim(0, 0, 1, 0, 0, 0);
        x.today(18);
        Check.due("on 19 ran is 0", x.pay(0), -1);
        x.today(19);
        Check.due("on 20 ran is 0", x.pay(0), 0);
    }

    private static void payAboveTwelve() {
        Check.sentence("pay(): a payment more, also of a claim with twelve FACTS");
        RanOut x = Check.with("term 20 days from done;renew pay;");
        x.claim(0, 0, 1, 0, 0, 0);
        for (int f = 0; f < 12; f++) {
            x.fact(0, 4, 1, 1);
        }
        x.today(9);
        Check.due("the 13th", x.pay(0), 9);
        Check.due("twelve still", x.look(30), 12);
    }

    /** Four claims with an ask each that keeps them to 30, wanted, with an act each at 1, 2, 4, 8. */
    private static RanOut asked() {
        RanOut x = claims("term 20 days from done;renew ask;", 4);
        for (int c = 0; c < 4; c++) {
            x.fact(c, 4, 10, 10);
            x.doubt(c, 0, 6);
            x.want(c, true);
            x.act(c, 4, 15, 1 << c, c, -1, -1);
        }
        return x;
    }

    private static void contestSets() {
        Check.sentence("CONTEST: of all sets of k CONTESTED FACTS or fewer (k 0 .. 2) .. taken away, that by which CHEAPEST to the day costs most");
        RanOut x = asked();
        contest(x, 30, 0, 0, -1, -1);
        contest(x, 30, 1, 8, 36, -1);
        contest(x, 30, 2, 12, 24, 36);
        Check.due("k 3", x.contest(30, 3, 0), -1);
        Check.due("k -1", x.contest(30, -1, 0), -1);
        contest(x, 20, 2, 0, -1, -1);
        contest(x, 31, 0, 15, -1, -1);
        contest(x, 31, 2, 15, -1, -1);
        x.doubt(3, 0, 0);
        contest(x, 30, 1, 4, 24, -1);
        x.doubt(2, 0, 5);
        contest(x, 30, 2, 3, 0, 12);
        x.want(0, false);
        contest(x, 30, 2, 2, 12, -1);
        Check.due("asking leaves the FACTS", x.last(1), 30);
    }

    private static void contestNone() {
        Check.sentence("CONTEST: .. (none can keep all: 9999)");
        RanOut x = asked();
        contest(x, 36, 0, 9999, -1, -1);
        contest(x, 36, 2, 9999, -1, -1);
        x.act(2, -1, 0, 0, 0, 0, 0);
        contest(x, 30, 0, 0, -1, -1);
        contest(x, 30, 1, 9999, 24, -1);
        contest(x, 30, 2, 9999, 24, -1);
        x = asked();
        for (int k = 0; k < 6; k++) {
            x.act(k, 4, 15 + k, 999, k % 4, -1, -1);
        }
        contest(x, 30, 2, 1998, 0, 12);
    }

    private static void contestFewest() {
        Check.sentence("CONTEST: .. then the fewest");
        RanOut x = asked();
        x.want(0, false);
        x.want(1, false);
        x.want(2, false);
        contest(x, 30, 2, 8, 36, -1);
        x.want(3, false);
        contest(x, 30, 2, 0, -1, -1);
        x = asked();
        x.act(4, 4, 15, 8, 0, 2, 3);
        contest(x, 30, 1, 8, 36, -1);
        Check.due("two cost more", x.contest(30, 2, 0), 10);
        x.act(5, 4, 15, 8, 1, 2, 3);
        contest(x, 30, 2, 8, 36, -1);
    }

    private static void contestFirst() {
        Check.sentence("CONTEST: .. then the first (by the first unlike FACT, the lower claim, then FACT)");
        RanOut x = asked();
        for (int c = 0; c < 4; c++) {
            x.act(c, 4, 15, 5, c, -1, -1);
        }
        contest(x, 30, 1, 5, 0, -1);
        contest(x, 30, 2, 10, 0, 12);
        x.doubt(0, 0, 0);
        contest(x, 30, 1, 5, 12, -1);
        contest(x, 30, 2, 10, 12, 24);
        x.act(1, 4, 15, 4, 1, -1, -1);
        contest(x, 30, 2, 10, 24, 36);
        x = claims("term 20 days from done;renew ask;", 2);
        for (int c = 0; c < 2; c++) {
            x.want(c, true);
            x.act(c, 4, 15, 5, c, -1, -1);
            x.fact(c, 5, 10, 10);
            x.fact(c, 4, 10, 10);
            x.fact(c, 4, 9, 9);
            x.doubt(c, 1, 6);
            x.doubt(c, 2, 6);
        }
        contest(x, 29, 2, 5, 1, 2);
        Check.due("with both 30", x.last(0), 30);
        contest(x, 30, 1, 5, 1, -1);
        contest(x, 30, 2, 10, 1, 13);
        x.doubt(0, 1, 0);
        contest(x, 30, 2, 5, 13, -1);
    }

    private static void contestNumbers() {
        Check.sentence("contest(): 10 + i the i-th FACT of the set (12 times its claim more); NONE if there is none such");
        RanOut x = claims("term 20 days from done;renew ask;", 60);
        for (int f = 0; f < 12; f++) {
            x.fact(59, f == 11 ? 4 : 5, 10, 10);
            x.fact(58, f == 11 ? 4 : 5, 10, 10);
        }
        x.doubt(59, 11, 6);
        x.doubt(58, 11, 6);
        x.want(59, true);
        contest(x, 30, 1, 9999, 719, -1);
        x.want(58, true);
        x.act(0, 4, 15, 3, 58, -1, -1);
        x.act(1, 4, 15, 3, 59, -1, -1);
        contest(x, 30, 2, 6, 707, 719);
        contest(x, 30, 1, 3, 707, -1);
        contest(x, 30, 0, 0, -1, -1);
    }

    private static void contestBehindToday() {
        Check.sentence("CONTEST: .. FACTS taken away, also those of days gone");
        RanOut x = asked();
        x.today(12);
        contest(x, 30, 1, 8, 36, -1);
        contest(x, 30, 2, 12, 24, 36);
        x.today(15);
        contest(x, 30, 2, 12, 24, 36);
        x.today(16);
        contest(x, 30, 0, 0, -1, -1);
        contest(x, 30, 1, 9999, 0, -1);
        x.today(21);
        x.act(0, 7, 21, 1, 0, 1, 2);
        x.want(3, false);
        contest(x, 31, 0, 1, -1, -1);
        contest(x, 31, 2, 9999, 0, -1);
        x = claims("term 20 days from done;renew ask;", 1);
        x.want(0, true);
        x.fact(0, 4, 5, 5);
        x.fact(0, 4, 10, 10);
        x.doubt(0, 0, 6);
        x.doubt(0, 1, 6);
        contest(x, 20, 2, 0, -1, -1);
        contest(x, 21, 2, 9999, 0, 1);
        x.today(22);
        contest(x, 25, 1, 0, -1, -1);
        contest(x, 25, 2, 9999, 0, 1);
        contest(x, 26, 2, 9999, 1, -1);
    }

    private static void besideCounts() {
        Check.sentence("BESIDE: if LAW a was in place of LAW b everywhere: how many claims ALIVE TODAY would be DEAD, and how many DEAD ones ALIVE");
        RanOut x = Check.with("term 20 days from done;");
        Check.tell(x, 1, "term 10 days from done;");
        Check.tell(x, 7, "term 30 days from done;");
        for (int done = 0; done < 10; done++) {
            x.claim(0, 0, 0, done, done, done);
        }
        x.today(10);
        beside(x, 1, 0, 0, 0);
        x.today(11);
        beside(x, 1, 0, 1, 0);
        x.today(25);
        Check.due("ALIVE: those done on 5 .. 9", x.look(3), 5);
        beside(x, 1, 0, 5, 0);
        beside(x, 7, 0, 0, 5);
        beside(x, 0, 0, 0, 0);
        beside(x, 0, 1, 0, 0);
        beside(x, 2, 0, 0, 5);
        x.today(31);
        beside(x, 7, 0, 0, 9);
        Check.due("asking leaves the LAWS", x.look(10), 1);
        Check.due("asking leaves the LAST DAYS", x.last(9), 29);
    }

    private static void besideEverywhere() {
        Check.sentence("BESIDE: everywhere: from day 0 on and by every CHANGE, at every PLACE");
        RanOut x = Check.with("term 20 days from done;");
        Check.tell(x, 1, "term 5 days from done;");
        Check.tell(x, 2, "term 50 days from done;");
        for (int p = 0; p < 6; p++) {
            x.claim(p, 0, 0, 0, 0, 0);
        }
        x.place(0, 1);
        x.change(1, 3, 1, true);
        x.change(2, 3, 1, false);
        x.change(3, 3, 2, true);
        x.change(3, 4, 0, true);
        x.change(3, 6, 1, true);
        x.place(4, 1);
        x.change(4, 3, 0, true);
        x.place(5, 2);
        x.change(5, 5, 1, true);
        x.today(15);
        Check.due("ALIVE: places 2 and 4", x.look(3), 2);
        beside(x, 0, 1, 0, 4);
        beside(x, 2, 1, 0, 4);
        beside(x, 1, 0, 2, 0);
        beside(x, 1, 2, 0, 0);
    }

    private static void besideAtDay() {
        Check.sentence("BESIDE: DEAD from the day behind its LAST DAY on");
        RanOut x = Check.with("term 20 days from done;");
        Check.tell(x, 1, "term 10 days from done;");
        x.claim(0, 0, 0, 0, 0, 0);
        x.claim(0, 0, 0, 2000, 2000, 2000);
        x.claim(0, 0, 0, 0, 0, 0);
        x.fact(2, 7, 11, 11);
        x.today(10);
        beside(x, 1, 0, 0, 0);
        x.today(11);
        Check.due("one whose suit comes too late is DEAD too", x.beside(1, 0, 0), 2);
        x.today(20);
        beside(x, 1, 0, 2, 0);
        x.today(21);
        beside(x, 1, 0, 1, 0);
        x.place(0, 1);
        beside(x, 0, 1, 0, 1);
    }

    private static void besideFourChanges() {
        Check.sentence("BESIDE: everywhere: by all four CHANGES");
        RanOut x = Check.with("term 20 days from done;");
        Check.tell(x, 1, "term 20 days from done;stop child;");
        x.claim(5, 0, 0, 0, 0, 0);
        x.fact(0, 0, 1, 20);
        x.change(5, 3, 1, true);
        x.change(5, 6, 0, true);
        x.change(5, 9, 1, true);
        x.change(5, 12, 0, true);
        Check.due("six days STOPPED", x.last(0), 26);
        x.today(21);
        beside(x, 0, 1, 1, 0);
        beside(x, 1, 0, 0, 0);
        x.today(27);
        beside(x, 0, 1, 0, 0);
        beside(x, 1, 0, 0, 1);
        x.today(41);
        beside(x, 1, 0, 0, 0);
        Check.sentence("BESIDE: LAWS 0 .. 7 both");
        x = Check.with("term 20 days from done;");
        Check.tell(x, 7, "term 10 days from done;");
        x.claim(0, 0, 0, 0, 0, 0);
        x.claim(1, 0, 0, 0, 0, 0);
        x.place(1, 7);
        x.today(15);
        beside(x, 7, 0, 1, 0);
        beside(x, 0, 7, 0, 1);
        beside(x, 6, 7, 0, 1);
        beside(x, 7, 6, 0, 0);
        beside(x, 7, 7, 0, 0);
    }
}
