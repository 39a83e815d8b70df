/**
 * A test for each sentence that names an edge of what is told: the intro, the first part of
 * "Terms", and promises 1 to 5, 10 to 12, 17, 18, 25 and 26. What can't be is in RefusedTest.
 */
public final class TellEdgesTest {
    public static void main(String[] args) {
        newObject();
        nothingTold();
        calls();
        todayEdges();
        actsOfDaysGone();
        weekdays();
        holidayEdges();
        holidaysFull();
        placeEdges();
        changeEdges();
        changesFull();
        newOnesAlone();
        claimEdges();
        claimsFull();
        factEdges();
        factsFull();
        doubtEdges();
        doubtsOfClaimFull();
        contestedOfClaimFull();
        contestedInAllFull();
        actEdges();
        actAgain();
        wants();
        imageOfNothing();
        imageOfAll();
        imageAgain();
        imageOfLastDays();
        imageOfActs();
        imageOfLateClaims();
        imageOfClaims();
        imageWithoutTape();
        looks();
        Check.leave("TellEdgesTest");
    }

    private static void newObject() {
        Check.sentence("RanOut(): No claims");
        RanOut x = new RanOut();
        Check.due("look(1)", x.look(1), 0);
        Check.due("look(30)", x.look(30), -1);
        Check.due("fact", x.fact(0, 4, 0, 0), -1);
        Check.due("doubt", x.doubt(0, 0, 0), false);
        Check.due("last", x.last(0), -3);
        Check.due("step", x.step(0, 0, 0), -10);
        Check.due("span", x.span(0, 0), -10);
        Check.due("act", x.act(0, 4, 0, 0, 0, -1, -1), false);
        Check.due("want", x.want(0, true), false);
        Check.due("pay", x.pay(0), -100000);
        Check.due("the first one", x.claim(0, 0, 0, 0, 0, 0), 0);
    }

    /** Empty rows: what is asked of nothing has its answer too. */
    private static void nothingTold() {
        Check.sentence("a new object: TODAY 0, no HOLIDAYS, ACTS, WANTED, CHANGES; LAWS are empty at first");
        RanOut x = new RanOut();
        for (int what = 0; what <= 7; what++) {
            Check.due("look(" + what + ")", x.look(what), 0);
        }
        for (int what = 10; what <= 17; what++) {
            Check.due("look(" + what + ")", x.look(what), 0);
        }
        for (int what = 20; what <= 25; what++) {
            Check.due("look(" + what + ")", x.look(what), 0);
        }
        Check.due("cheapest set", x.cheapest(400, 0), 0);
        Check.due("cheapest cost", x.cheapest(400, 1), 0);
        Check.due("worth set", x.worth(400, 9999, 0), 0);
        Check.due("worth sum", x.worth(400, 9999, 1), 0);
        Check.due("worth cost", x.worth(400, 9999, 2), 0);
        Check.due("one", x.one(400, 0), -1);
        Check.due("one more", x.one(400, 1), 0);
        Check.due("contest", x.contest(400, 2, 0), 0);
        Check.due("contest's first", x.contest(400, 2, 10), -1);
        Check.due("beside dead", x.beside(7, 0, 0), 0);
        Check.due("beside alive", x.beside(7, 0, 1), 0);
        Check.due("no change", x.changed(5, 0), -1);
        Check.due("fault", x.fault(0), 0);
        Check.due("its place", x.fault(1), -1);
        Check.due("text of the empty tape", x.text(3), 0);
        Check.due("a claim", x.claim(5, 9, 9, 100, 100, 100), 0);
        Check.due("has no TERM", x.step(0, 100, 1), -1);
        Check.due("under LAW 0", x.step(0, 100, 2), 0);
        Check.due("is not yet", x.step(0, 4999, 3), 0);
        Check.due("has no LAST DAY", x.last(0), -1);
        Check.due("and is ALIVE", x.look(3), 1);
    }

    private static void calls() {
        Check.sentence("An object is used for at most 512 calls after it has been made");
        RanOut x = new RanOut();
        x.claim(0, 0, 7, 0, 0, 0);
        for (int i = 2; i <= 510; i++) {
            Check.due("today", x.today(i), true);
        }
        Check.due("the 511th call", x.look(4), 7);
        Check.due("the 512th call", x.look(0), 510);
    }

    private static void todayEdges() {
        Check.sentence("TODAY 0 .. 2999 (0 at first)");
        RanOut x = new RanOut();
        Check.due("at first", x.look(0), 0);
        Check.due("-1", x.today(-1), false);
        Check.due("0", x.today(0), true);
        Check.due("3000", x.today(3000), false);
        Check.due("still 0", x.look(0), 0);
        Check.due("2999", x.today(2999), true);
        Check.due("is told", x.look(0), 2999);
        Check.sentence("false if it can't be (not ahead of what it was)");
        Check.due("2998", x.today(2998), false);
        Check.due("0", x.today(0), false);
        Check.due("still", x.look(0), 2999);
        Check.due("the same", x.today(2999), true);
    }

    private static void actsOfDaysGone() {
        Check.sentence("ACTS of days gone are none any more");
        RanOut x = Check.with("term 20 days from done;renew ask;");
        x.claim(0, 0, 1, 0, 0, 0);
        x.want(0, true);
        x.act(0, 4, 9, 1, 0, -1, -1);
        x.act(1, 4, 10, 2, 0, -1, -1);
        x.act(2, 4, 11, 3, 0, -1, -1);
        Check.due("all three", x.look(7), 3);
        Check.due("a day that can't be", x.today(3000), false);
        Check.due("takes none", x.look(7), 3);
        x.today(10);
        Check.due("that of the day gone is none, that of TODAY is", x.look(7), 2);
        Check.due("the cheapest of those left", x.cheapest(21, 0), 2);
        Check.due("a day gone", x.today(9), false);
        Check.due("takes none", x.look(7), 2);
        x.today(11);
        Check.due("the last one", x.cheapest(21, 0), 4);
        x.today(12);
        Check.due("none", x.look(7), 0);
        Check.due("none can keep it", x.cheapest(21, 0), -1);
        Check.due("one may be told again", x.act(0, 4, 12, 1, 0, -1, -1), true);
        Check.due("and keeps it", x.cheapest(21, 0), 1);
    }

    private static void weekdays() {
        Check.sentence("the 0th is a Monday; OFF are Saturdays, Sundays");
        int[] lasts = {1, 2, 3, 4, 7, 7, 7, 8, 9, 10, 11, 14, 14, 14};
        for (int n = 1; n <= 14; n++) {
            RanOut x = Check.with("term " + n + " days from done;roll;");
            x.claim(0, 0, 0, 0, 0, 0);
            Check.due("a term of " + n + " days", x.last(0), lasts[n - 1]);
        }
        RanOut x = Check.with("term 1999 days from done;roll;");
        x.claim(0, 0, 0, 2999, 2999, 2999);
        Check.due("4998 is a Monday", x.last(0), 4998);
        Check.tell(x, 0, "term 1998 days from done;roll;");
        Check.due("4997 is a Sunday", x.last(0), 4998);
        Check.tell(x, 0, "term 1995 days from done;roll;");
        Check.due("4994 is a Thursday", x.last(0), 4994);
    }

    private static void holidayEdges() {
        Check.sentence("A HOLIDAY (0 .. 4999): true (once more: nothing)");
        RanOut x = Check.with("term 2000 days from done;roll;");
        x.claim(0, 0, 0, 2999, 2999, 2999);
        Check.due("it ends on the last of all days", x.last(0), 4999);
        Check.due("-1", x.holiday(-1), false);
        Check.due("5000", x.holiday(5000), false);
        Check.due("none yet", x.look(2), 0);
        Check.due("0", x.holiday(0), true);
        Check.due("4999", x.holiday(4999), true);
        Check.due("two", x.look(2), 2);
        Check.due("4999 is OFF, so that no day is left", x.last(0), -1);
        Check.due("4999 once more", x.holiday(4999), true);
        Check.due("0 once more", x.holiday(0), true);
        Check.due("still two", x.look(2), 2);
        Check.due("a Saturday", x.holiday(5), true);
        Check.due("is one too", x.look(2), 3);
    }

    private static void holidaysFull() {
        Check.sentence("HOLIDAYS (20 at most); false if there are 20 others");
        RanOut x = Check.with("term 7 days from done;roll;");
        x.claim(0, 0, 0, 0, 0, 0);
        int told = 0;
        for (int day = 7; told < 19; day++) {
            if (day % 7 < 5) {
                told++;
                Check.due("holiday(" + day + ")", x.holiday(day), true);
            }
        }
        Check.due("nineteen: 7 .. 11, 14 .. 18, 21 .. 25, 28 .. 31", x.last(0), 32);
        Check.due("the twentieth", x.holiday(32), true);
        Check.due("it counts", x.last(0), 35);
        Check.due("the 21st", x.holiday(35), false);
        Check.due("it does not", x.last(0), 35);
        Check.due("twenty", x.look(2), 20);
        Check.due("the first once more", x.holiday(7), true);
        Check.due("the twentieth once more", x.holiday(32), true);
        Check.due("twenty still", x.look(2), 20);
    }

    private static void placeEdges() {
        Check.sentence("PLACES 0 .. 5 have a LAW 0 .. 7 from day 0 on (0 at first)");
        RanOut x = new RanOut();
        for (int p = 0; p < 6; p++) {
            x.claim(p, 0, 0, 0, 0, 0);
            Check.due("at first, place " + p, x.step(p, 0, 2), 0);
        }
        for (int p = 0; p < 6; p++) {
            Check.due("place(" + p + ", " + (7 - p) + ")", x.place(p, 7 - p), true);
        }
        for (int p = 0; p < 6; p++) {
            Check.due("from day 0 on, place " + p, x.step(p, 0, 2), 7 - p);
            Check.due("to the last, place " + p, x.step(p, 4999, 2), 7 - p);
        }
        x.change(0, 5, 3, true);
        x.place(0, 1);
        Check.due("told again: ahead of the CHANGE", x.step(0, 4, 2), 1);
        Check.due("told again: the CHANGE stays", x.step(0, 5, 2), 3);
        Check.due("LAW 0 again", x.place(0, 0), true);
        Check.due("LAW 0 again", x.step(0, 4, 2), 0);
    }

    private static void changeEdges() {
        Check.sentence("A CHANGE of a PLACE from a day (1 .. 2999) on");
        RanOut x = new RanOut();
        x.claim(5, 0, 0, 0, 0, 0);
        Check.due("on day 1", x.change(5, 1, 7, true), true);
        Check.due("on day 2999", x.change(5, 2999, 6, true), true);
        Check.due("day 0", x.step(0, 0, 2), 0);
        Check.due("day 1", x.step(0, 1, 2), 7);
        Check.due("day 2998", x.step(0, 2998, 2), 7);
        Check.due("day 2999", x.step(0, 2999, 2), 6);
        Check.due("day 4999", x.step(0, 4999, 2), 6);
        Check.sentence("false if it is not behind the one ahead");
        x = new RanOut();
        Check.due("day 10", x.change(0, 10, 1, false), true);
        Check.due("the same day", x.change(0, 10, 1, true), false);
        Check.due("a day ahead", x.change(0, 9, 1, true), false);
        Check.due("a day behind", x.change(0, 11, 1, true), true);
        Check.due("ahead of the later one", x.change(0, 11, 1, true), false);
        Check.due("another PLACE has its own", x.change(1, 9, 1, true), true);
        Check.due("two", x.look(20), 2);
        Check.due("one", x.look(21), 1);
    }

    private static void changesFull() {
        Check.sentence("CHANGES (4 each at most); false if there are four");
        RanOut x = new RanOut();
        x.claim(0, 0, 0, 0, 0, 0);
        x.claim(5, 0, 0, 0, 0, 0);
        for (int p = 0; p < 6; p++) {
            for (int n = 1; n <= 4; n++) {
                Check.due("change " + n + " of " + p, x.change(p, 10 * n, n, true), true);
            }
            Check.due("a fifth of " + p, x.change(p, 50, 5, true), false);
            Check.due("look", x.look(20 + p), 4);
        }
        for (int n = 1; n <= 4; n++) {
            Check.due("ahead of change " + n, x.step(0, 10 * n - 1, 2), n - 1);
            Check.due("on change " + n, x.step(0, 10 * n, 2), n);
            Check.due("on change " + n, x.step(1, 10 * n, 2), n);
        }
        Check.due("none from the fifth", x.step(0, 4999, 2), 4);
        Check.due("none from the fifth", x.step(1, 4999, 2), 4);
    }

    private static void newOnesAlone() {
        Check.sentence("for ALL claims, or for NEW ones alone (those DONE on that day or later)");
        RanOut x = new RanOut();
        x.change(0, 100, 1, false);
        x.change(0, 200, 2, true);
        x.change(0, 300, 3, false);
        x.claim(0, 0, 0, 99, 2000, 2000);
        x.claim(0, 0, 0, 100, 2000, 2000);
        x.claim(0, 0, 0, 300, 2000, 2000);
        x.claim(0, 0, 0, 299, 2000, 2000);
        Check.due("DONE a day ahead", x.step(0, 100, 2), 0);
        Check.due("DONE on the day", x.step(1, 100, 2), 1);
        Check.due("a day ahead of the one for ALL", x.step(0, 199, 2), 0);
        Check.due("the one for ALL", x.step(0, 200, 2), 2);
        Check.due("the one for ALL", x.step(1, 200, 2), 2);
        Check.due("not of an old one", x.step(1, 4999, 2), 2);
        Check.due("not of one DONE a day ahead", x.step(3, 4999, 2), 2);
        Check.due("a new one", x.step(2, 300, 2), 3);
        Check.due("a new one ahead of it", x.step(2, 299, 2), 2);
        Check.due("a new one ahead of ALL", x.step(2, 199, 2), 1);
    }

    private static void claimEdges() {
        Check.sentence("a PLACE, a KIND 0 .. 9, a SUM 0 .. 9999, days DONE, KNOWN, DUE (0 .. 2999; KNOWN and DUE not ahead of DONE)");
        RanOut x = Check.with("long 1 days from done when kind=9 and sum=9999 and place=5;"
            + "long 2 days from known when kind=0 and sum=0 and place=0;long 3 days from due when kind=1;");
        Check.due("the greatest", x.claim(5, 9, 9999, 2999, 2999, 2999), 0);
        Check.due("the least", x.claim(0, 0, 0, 0, 0, 0), 1);
        Check.due("KNOWN as late as can be", x.claim(0, 0, 0, 0, 2999, 0), 2);
        Check.due("DUE as late as can be", x.claim(0, 1, 0, 0, 0, 2999), 3);
        Check.due("KNOWN ahead of DUE", x.claim(0, 1, 0, 5, 6, 7), 4);
        Check.due("DUE ahead of KNOWN", x.claim(0, 1, 0, 5, 7, 6), 5);
        Check.due("its LAST DAY", x.last(0), 3000);
        Check.due("its LAST DAY", x.last(1), 2);
        Check.due("its LAST DAY", x.last(2), 3001);
        Check.due("its LAST DAY", x.last(3), 3002);
        Check.due("its LAST DAY", x.last(4), 10);
        Check.due("its LAST DAY", x.last(5), 9);
    }

    private static void claimsFull() {
        Check.sentence("CLAIMS 0 .. 59 as they come; NONE if there are sixty");
        RanOut x = new RanOut();
        for (int c = 0; c < 60; c++) {
            Check.due("claim " + c, x.claim(c % 6, 0, c, 0, 0, 0), c);
        }
        Check.due("the 61st", x.claim(0, 0, 9999, 0, 0, 0), -1);
        Check.due("sixty", x.look(1), 60);
        Check.due("their SUM is without it", x.look(4), 1770);
        Check.due("there is no claim 60", x.last(60), -3);
        Check.due("a FACT of the last", x.fact(59, 7, 5, 5), 0);
        Check.due("it is KEPT", x.last(59), -2);
        Check.due("the one ahead of it not", x.last(58), -1);
        Check.due("the last is WANTED", x.want(59, true), true);
        Check.due("one", x.look(6), 1);
        Check.due("an ACT on the last", x.act(5, 7, 5, 1, 59, 58, 0), true);
    }

    private static void factEdges() {
        Check.sentence("a day from, a day to (0 .. 2999, not ahead of it)");
        RanOut x = Check.with("term 3000 days from done;stop child;stop abroad;stop war;stop talks;stop ask;stop pay;stop letter;");
        for (int sort = 0; sort < 8; sort++) {
            x.claim(0, 0, 0, 0, 0, 0);
            Check.due("sort " + sort, x.fact(sort, sort, 2999, 2999), 0);
            Check.due("sort " + sort, x.last(sort), sort == 7 ? -2 : 3001);
        }
        Check.due("from the first to the last day", x.fact(0, 0, 0, 2999), 1);
        Check.due("all of them STOPPED", x.last(0), -1);
        Check.due("on 2999 still", x.step(0, 2999, 3), 2);
        Check.due("on 3000 not", x.step(0, 3000, 3), 1);
        Check.sentence("0 child, 1 abroad, 2 war, 3 talks (these last), 4 ask, 5 pay, 6 letter, 7 suit (these are on a day)");
        String[] sorts = {"child", "abroad", "war", "talks", "ask", "pay", "letter"};
        for (int sort = 0; sort < sorts.length; sort++) {
            x = Check.with("term 50 days from done;stop " + sorts[sort] + ";");
            x.claim(0, 0, 0, 0, 0, 0);
            for (int other = 0; other < 7; other++) {
                x.fact(0, other, 2 * other + 1, other < 4 ? 2 * other + 2 : 2 * other + 1);
            }
            Check.due("stopped by " + sorts[sort] + " alone", x.last(0), sort < 4 ? 52 : 51);
            Check.due("a day ahead", x.step(0, 2 * sort, 3), sort == 0 ? 0 : 1);
            Check.due("from", x.step(0, 2 * sort + 1, 3), 2);
            Check.due("to", x.step(0, 2 * sort + 2, 3), sort < 4 ? 2 : 1);
            Check.due("a day behind", x.step(0, 2 * sort + 3, 3), 1);
        }
    }

    private static void factsFull() {
        Check.sentence("FACTS of a claim (12 at most) as they come; NONE if there are twelve");
        RanOut x = Check.with("term 20 days from done;stop child;");
        x.claim(0, 0, 0, 0, 0, 0);
        x.claim(0, 0, 0, 0, 0, 0);
        for (int f = 0; f < 12; f++) {
            Check.due("fact " + f, x.fact(0, 0, f + 1, f + 1), f);
        }
        Check.due("all twelve count", x.last(0), 32);
        Check.due("the 13th", x.fact(0, 7, 20, 20), -1);
        Check.due("it does not", x.last(0), 32);
        Check.due("twelve", x.look(30), 12);
        Check.due("another claim has its own", x.fact(1, 0, 1, 1), 0);
        Check.due("one", x.look(31), 1);
        Check.due("the twelfth may be CONTESTED", x.doubt(0, 11, 6), true);
        Check.due("a 13th may not", x.doubt(0, 12, 6), false);
        Check.due("it matters", x.span(0, 2), 1 << 11);
        Check.due("without it", x.span(0, 0), 31);
    }

    private static void doubtEdges() {
        Check.sentence("in DOUBT (by 1 .. 5 days: it can have begun, and ended, as many days later as there are from 0 to that)");
        for (int n = 0; n <= 5; n++) {
            RanOut x = Check.with("term 50 days from done;renew ask;");
            x.claim(0, 0, 0, 0, 0, 0);
            x.fact(0, 4, 10, 10);
            Check.due("doubt " + n, x.doubt(0, 0, n), true);
            Check.due("as told", x.last(0), 60);
            Check.due("the earliest", x.span(0, 0), 60);
            Check.due("the latest", x.span(0, 1), 60 + n);
        }
        RanOut x = Check.with("term 10 days from done;stop child;");
        x.claim(0, 0, 0, 20, 20, 20);
        x.fact(0, 0, 15, 19);
        Check.due("ended ahead of it", x.last(0), 30);
        x.doubt(0, 0, 5);
        Check.due("begun later: ended later too", x.span(0, 1), 34);
        Check.due("as told it stops nothing", x.span(0, 0), 30);
        x = Check.with("term 3000 days from done;stop talks;");
        x.claim(0, 0, 0, 0, 0, 0);
        x.fact(0, 3, 2998, 2999);
        x.doubt(0, 0, 5);
        Check.due("also beyond 2999", x.span(0, 1), 3002);
        Check.due("behind the end", x.span(0, 0), 3000);
        Check.sentence("A FACT of a claim (sure)");
        x.fact(0, 7, 2, 2);
        Check.due("a new one is sure", x.span(0, 0), -2);
        Check.sentence("A FACT is sure (0)");
        x.claim(0, 0, 0, 0, 0, 0);
        x.fact(1, 3, 5, 5);
        x.doubt(1, 0, 6);
        Check.due("CONTESTED", x.span(1, 2), 1);
        Check.due("sure", x.doubt(1, 0, 0), true);
        Check.due("nothing hangs on it", x.span(1, 2), 0);
        Check.due("the earliest is that of last()", x.span(1, 0), 3001);
    }

    private static void doubtsOfClaimFull() {
        Check.sentence("in DOUBT (.. two of a claim at most); false if one can't be (too many of a claim)");
        RanOut x = Check.with("term 20 days from done;stop ask;");
        x.claim(0, 0, 0, 0, 0, 0);
        x.claim(0, 0, 0, 0, 0, 0);
        for (int f = 0; f < 4; f++) {
            x.fact(0, 4, 20 - f, 20 - f);
            x.fact(1, 4, 20 - f, 20 - f);
        }
        Check.due("the first", x.doubt(0, 0, 1), true);
        Check.due("the second", x.doubt(0, 3, 5), true);
        int before = x.span(0, 0);
        for (int n = 1; n <= 5; n++) {
            Check.due("a third by " + n, x.doubt(0, 1, n), false);
        }
        Check.due("it stays sure", x.span(0, 0), before);
        Check.due("one of the two by other days", x.doubt(0, 3, 2), true);
        Check.due("one of the two by the same days", x.doubt(0, 3, 2), true);
        Check.due("another claim has its own", x.doubt(1, 0, 1), true);
        Check.due("another claim has its own", x.doubt(1, 1, 1), true);
        Check.due("a third CONTESTED", x.doubt(0, 1, 6), true);
        Check.due("a third sure", x.doubt(0, 1, 0), true);
        Check.due("one of the two CONTESTED", x.doubt(0, 0, 6), true);
        Check.due("leaves room", x.doubt(0, 1, 4), true);
        Check.due("and that one can't come back", x.doubt(0, 0, 1), false);
        Check.due("it stays CONTESTED", x.span(0, 2), 1);
        Check.due("but be sure", x.doubt(0, 0, 0), true);
    }

    private static void contestedOfClaimFull() {
        Check.sentence("CONTESTED (two of a claim .. at most)");
        RanOut x = Check.with("term 20 days from done;stop ask;");
        x.claim(0, 0, 0, 0, 0, 0);
        for (int f = 0; f < 4; f++) {
            x.fact(0, 4, 10 + f, 10 + f);
        }
        Check.due("the first", x.doubt(0, 0, 6), true);
        Check.due("the second", x.doubt(0, 1, 6), true);
        Check.due("a third", x.doubt(0, 2, 6), false);
        Check.due("it stays sure", x.span(0, 2), 3);
        Check.due("one once more", x.doubt(0, 1, 6), true);
        Check.due("in DOUBT", x.doubt(0, 2, 1), true);
        Check.due("one in DOUBT is a third too", x.doubt(0, 2, 6), false);
        Check.due("it stays in DOUBT", x.span(0, 1), 24);
        Check.due("one sure again", x.doubt(0, 0, 0), true);
        Check.due("leaves room", x.doubt(0, 3, 6), true);
        Check.due("these two", x.span(0, 2), 10);
    }

    private static void contestedInAllFull() {
        Check.sentence("CONTESTED (.. six in all at most)");
        RanOut x = Check.with("term 20 days from done;stop ask;");
        for (int c = 0; c < 7; c++) {
            x.claim(0, 0, 0, 0, 0, 0);
            x.fact(c, 4, 10, 10);
        }
        for (int c = 0; c < 6; c++) {
            Check.due("claim " + c, x.doubt(c, 0, 6), true);
        }
        Check.due("the seventh", x.doubt(6, 0, 6), false);
        Check.due("it stays sure", x.span(6, 2), 0);
        Check.due("one of the six once more", x.doubt(5, 0, 6), true);
        Check.due("one of the six in DOUBT", x.doubt(3, 0, 2), true);
        Check.due("leaves room", x.doubt(6, 0, 6), true);
        Check.due("for that one not", x.doubt(3, 0, 6), false);
        Check.due("it stays in DOUBT", x.span(3, 2), 0);
        Check.due("another sure", x.doubt(0, 0, 0), true);
        Check.due("leaves room again", x.doubt(3, 0, 6), true);
        x.image(true);
        x.doubt(1, 0, 0);
        x.doubt(2, 0, 0);
        x.image(false);
        Check.due("gone back there are six", x.doubt(0, 0, 6), false);
        x = Check.with("term 20 days from done;stop ask;");
        for (int c = 0; c < 5; c++) {
            x.claim(0, 0, 0, 0, 0, 0);
            for (int f = 0; f < c * 3 && f < 12; f++) {
                x.fact(c, 4, 1 + f, 1 + f);
            }
        }
        Check.due("claims of more FACTS than the first has", x.doubt(1, 0, 6), true);
        Check.due("two of a claim", x.doubt(1, 1, 6), true);
        Check.due("a third of it", x.doubt(1, 2, 6), false);
        Check.due("the third in all", x.doubt(2, 0, 6), true);
        Check.due("the fourth in all", x.doubt(3, 8, 6), true);
        Check.due("the fifth in all", x.doubt(4, 10, 6), true);
        Check.due("the sixth in all", x.doubt(4, 11, 6), true);
        Check.due("the seventh, of a claim with one", x.doubt(2, 1, 6), false);
        Check.due("the seventh, of a claim with one", x.doubt(3, 0, 6), false);
        Check.due("in DOUBT they may be", x.doubt(2, 1, 5), true);
        Check.due("two of a claim", x.doubt(2, 5, 5), true);
        Check.due("a third of it", x.doubt(2, 4, 5), false);
    }

    private static void actEdges() {
        Check.sentence("ACTS 0 .. 5: a SORT 4 .. 7, a day (TODAY .. 2999), a COST 0 .. 999, CLAIMS (up to three of them)");
        RanOut x = new RanOut();
        for (int c = 0; c < 4; c++) {
            x.claim(0, 0, 0, 0, 0, 0);
        }
        x.today(100);
        Check.due("the first, on TODAY, at no cost", x.act(0, 4, 100, 0, 0, -1, -1), true);
        Check.due("a day gone", x.act(1, 4, 99, 0, 0, -1, -1), false);
        Check.due("the last, on 2999, at the greatest cost", x.act(5, 7, 2999, 999, 3, 2, 1), true);
        Check.due("two", x.look(7), 2);
        x.today(2999);
        Check.due("one", x.look(7), 1);
        Check.due("on TODAY, 2999", x.act(0, 5, 2999, 1, 0, -1, -1), true);
        Check.sentence("claims b, c NONE: fewer; unlike ones");
        Check.due("one", x.act(1, 4, 2999, 0, 0, -1, -1), true);
        Check.due("two", x.act(1, 4, 2999, 0, 0, 1, -1), true);
        Check.due("two, by a and c", x.act(1, 4, 2999, 0, 0, -1, 1), true);
        Check.due("three", x.act(1, 4, 2999, 0, 3, 0, 1), true);
        Check.due("none", x.act(1, 4, 2999, 0, -1, -1, -1), false);
        Check.due("b like a", x.act(1, 4, 2999, 0, 1, 1, -1), false);
        Check.due("c like a", x.act(1, 4, 2999, 0, 1, 2, 1), false);
        Check.due("c like b", x.act(1, 4, 2999, 0, 1, 2, 2), false);
    }

    private static void actAgain() {
        Check.sentence("An ACT k (sort NONE: none any more; the others not asked)");
        RanOut x = Check.with("term 20 days from done;renew ask;");
        x.claim(0, 0, 0, 0, 0, 0);
        x.claim(0, 0, 0, 0, 0, 0);
        x.want(0, true);
        x.act(2, 4, 10, 5, 0, 1, -1);
        Check.due("it keeps claim 0", x.cheapest(25, 1), 5);
        x.act(2, 4, 12, 9, 0, -1, -1);
        Check.due("told otherwise: one still", x.look(7), 1);
        Check.due("at another cost", x.cheapest(32, 1), 9);
        Check.due("claim 1 is no longer in it", x.one(25, 1), 1);
        Check.due("one that can't be", x.act(2, 4, 12, 1000, 1, -1, -1), false);
        Check.due("leaves it", x.cheapest(32, 1), 9);
        int min = Integer.MIN_VALUE;
        Check.due("none any more, whatever else", x.act(2, -1, min, min, min, min, min), true);
        Check.due("none", x.look(7), 0);
        Check.due("none can keep it", x.cheapest(25, 1), -1);
        Check.due("one that is none: none", x.act(5, -1, 0, 0, 0, 0, 0), true);
        Check.due("none", x.look(7), 0);
    }

    private static void wants() {
        Check.sentence("A claim is WANTED or not: true");
        RanOut x = new RanOut();
        x.claim(0, 0, 0, 0, 0, 0);
        Check.due("not, at first", x.look(6), 0);
        Check.due("not, once more", x.want(0, false), true);
        Check.due("WANTED", x.want(0, true), true);
        Check.due("WANTED once more", x.want(0, true), true);
        Check.due("one", x.look(6), 1);
        Check.due("the next one can't be yet", x.want(1, true), false);
        x.claim(0, 0, 0, 0, 0, 0);
        Check.due("a new one is not", x.look(6), 1);
        Check.due("not", x.want(0, false), true);
        Check.due("none", x.look(6), 0);
    }

    private static void imageOfNothing() {
        Check.sentence("THE IMAGE is taken (true), or gone back to (false): false if there is none");
        RanOut x = new RanOut();
        x.claim(0, 0, 0, 0, 0, 0);
        Check.due("none", x.image(false), false);
        Check.due("nothing changes", x.look(1), 1);
        Check.sentence("THE IMAGE of a new object");
        x = new RanOut();
        Check.due("taken", x.image(true), true);
        x.claim(0, 0, 3, 0, 0, 0);
        x.fact(0, 7, 4, 4);
        x.doubt(0, 0, 6);
        x.want(0, true);
        x.today(4);
        x.act(0, 4, 4, 1, 0, -1, -1);
        x.holiday(4);
        x.place(0, 3);
        x.change(0, 4, 2, true);
        Check.tell(x, 0, "roll;");
        Check.due("gone back", x.image(false), true);
        Check.alike("image(false)", x, new RanOut());
        Check.due("claims begin anew", x.claim(0, 0, 0, 0, 0, 0), 0);
        Check.due("it is not WANTED", x.look(6), 0);
        Check.due("it has no FACTS", x.look(30), 0);
        Check.due("it has LAW 0", x.step(0, 10, 2), 0);
    }

    private static void imageOfAll() {
        Check.sentence("all that is and was told .. as it was when it was taken");
        RanOut x = image();
        x.image(true);
        x.today(20);
        x.holiday(7);
        x.holiday(14);
        x.place(0, 1);
        x.place(5, 3);
        x.change(0, 40, 3, true);
        x.change(4, 1, 1, true);
        Check.tell(x, 0, "stop war;");
        Check.tell(x, 1, "");
        Check.tell(x, 7, "roll;roll;");
        x.fact(0, 7, 1, 1);
        x.doubt(0, 0, 0);
        x.doubt(1, 0, 2);
        x.want(0, false);
        x.want(1, true);
        x.act(0, -1, 0, 0, 0, 0, 0);
        x.act(1, 7, 20, 9, 1, 2, -1);
        x.claim(3, 3, 3, 3, 3, 3);
        Check.due("gone back", x.image(false), true);
        Check.alike("image(false)", x, image());
    }

    private static RanOut image() {
        RanOut x = Check.with("term 7 days from done;renew ask;roll;");
        Check.tell(x, 1, "term 30 days from due;renew ask;");
        x.holiday(4);
        x.place(1, 1);
        x.change(0, 30, 1, false);
        for (int c = 0; c < 3; c++) {
            x.claim(c % 2, c, 10 + c, c, c + 1, c + 2);
            x.fact(c, 4, 5, 5);
        }
        x.doubt(0, 0, 6);
        x.want(0, true);
        x.today(3);
        x.act(0, 4, 8, 5, 0, 1, -1);
        x.act(1, 4, 4, 5, 2, -1, -1);
        return x;
    }

    private static void imageAgain() {
        Check.sentence("gone back to it may be more than once");
        RanOut x = image();
        x.image(true);
        for (int again = 0; again < 3; again++) {
            x.today(10 + again);
            x.fact(0, 7, 6, 6);
            x.claim(0, 0, 0, 0, 0, 0);
            Check.due("gone back", x.image(false), true);
            Check.due("TODAY", x.look(0), 3);
            Check.due("claims", x.look(1), 3);
            Check.due("FACTS", x.look(30), 1);
            Check.due("ACTS of days that are not gone any more", x.look(7), 2);
            Check.due("and on at once", x.image(false), true);
        }
        Check.sentence("THE IMAGE is taken: the latest one");
        x.today(9);
        x.image(true);
        x.today(19);
        x.image(false);
        Check.due("the second", x.look(0), 9);
        Check.due("its ACTS", x.look(7), 0);
    }

    private static void imageOfLastDays() {
        Check.sentence("an image from which all goes on: what is asked behind it is as it was ahead of it");
        RanOut x = Check.with("term 10 days from done;stop child;");
        Check.tell(x, 1, "term 30 days from done;");
        x.claim(0, 0, 5, 0, 0, 0);
        x.fact(0, 0, 3, 4);
        x.doubt(0, 0, 6);
        x.image(true);
        for (int again = 0; again < 4; again++) {
            switch (again) {
                case 0: x.place(0, 1); break;
                case 1: x.change(0, 5, 1, true); break;
                case 2: Check.tell(x, 0, "term 40 days from done;"); break;
                default: x.fact(0, 7, 5, 5); break;
            }
            Check.due("another LAST DAY: " + again, x.last(0) != 12, true);
            Check.due("another SPAN: " + again, x.span(0, 1) != 12, true);
            x.image(false);
            Check.due("its LAST DAY again", x.last(0), 12);
            Check.due("its earliest again", x.span(0, 0), 10);
            Check.due("its latest again", x.span(0, 1), 12);
            Check.due("HANGS again", x.span(0, 2), 1);
        }
    }

    private static void imageOfActs() {
        Check.sentence("all that is and was told .. as it was: SORT, day, COST and CLAIMS of ACTS, and what is WANTED");
        RanOut x = Check.with("term 20 days from done;renew ask;");
        for (int c = 0; c < 4; c++) {
            x.claim(0, 0, 10, 0, 0, 0);
        }
        x.want(1, true);
        x.act(5, 4, 12, 7, 0, 1, 2);
        x.image(true);
        int[][] others = {{5, 12, 7, 0, 1, 2}, {4, 11, 7, 0, 1, 2}, {4, 12, 8, 0, 1, 2}, {4, 12, 7, 3, 1, 2}, {4, 12, 7, 0, 3, 2}, {4, 12, 7, 0, 1, -1}, {-1, 0, 0, 0, 0, 0}};
        for (int[] o : others) {
            x.act(5, o[0], o[1], o[2], o[3], o[4], o[5]);
            x.want(1, false);
            x.want(3, true);
            x.image(false);
            Check.due("the set", x.cheapest(32, 0), 32);
            Check.due("its COST", x.cheapest(32, 1), 7);
            Check.due("its day", x.cheapest(33, 0), -1);
            Check.due("its CLAIMS", x.worth(32, 7, 1), 30);
            x.fact(0, 7, 1, 1);
            Check.due("one of them is the first", x.one(32, 1), 2);
            x.fact(1, 7, 1, 1);
            Check.due("one of them is the second", x.one(32, 1), 1);
            x.fact(2, 7, 1, 1);
            Check.due("one of them is the third", x.one(32, 1), 0);
            x.image(false);
        }
    }

    private static void imageOfLateClaims() {
        Check.sentence("all that is and was told .. as it was: of the last claims too");
        RanOut x = Check.with("term 20 days from done;stop child;");
        for (int c = 0; c < 60; c++) {
            x.claim(c % 6, c % 10, c, c, c + 1, c + 2);
        }
        for (int f = 0; f < 11; f++) {
            x.fact(59, 0, 61 + f, 61 + f);
        }
        x.doubt(59, 10, 6);
        x.want(59, true);
        x.image(true);
        x.doubt(59, 10, 0);
        x.doubt(59, 9, 5);
        x.fact(59, 0, 80, 80);
        x.want(59, false);
        x.want(58, true);
        x.image(false);
        Check.due("its FACTS", x.look(89), 11);
        Check.due("CONTESTED", x.span(59, 2), 1 << 10);
        Check.due("not in DOUBT", x.span(59, 0), 89);
        Check.due("its LAST DAY", x.last(59), 90);
        Check.due("WANTED", x.cheapest(91, 0), -1);
        Check.due("it, not the one ahead, whose LAST DAY is 78", x.cheapest(90, 0), 0);
        Check.due("one", x.look(6), 1);
        Check.due("sixty still", x.claim(0, 0, 0, 0, 0, 0), -1);
    }

    private static void imageOfClaims() {
        Check.sentence("all that is and was told .. as it was: PLACE, KIND, SUM and days of claims");
        RanOut x = Check.with("long 11 days from done when kind=3 and sum=500 and place=2;long 12 days from known when kind=4 and sum=600 and place=3;"
            + "long 13 days from due when kind=5 and sum=700 and place=4;");
        x.claim(2, 3, 500, 10, 20, 30);
        x.claim(3, 4, 600, 10, 20, 30);
        x.claim(4, 5, 700, 10, 20, 30);
        x.image(true);
        x.claim(1, 1, 1, 1, 1, 1);
        x.image(false);
        Check.due("from DONE", x.last(0), 21);
        Check.due("from KNOWN", x.last(1), 32);
        Check.due("from DUE", x.last(2), 43);
        Check.due("the SUM", x.look(4), 1800);
    }

    private static void imageWithoutTape() {
        Check.sentence("THE IMAGE: all that is and was told but the TAPE and fault()");
        RanOut x = new RanOut();
        Check.feed(x, "roll;roll;");
        x.image(true);
        Check.due("taking it leaves the TAPE", x.end(10), true);
        Check.due("the TAPE", x.text(0), 2);
        Check.tell(x, 1, "roll;x");
        Check.feed(x, "roll;");
        x.image(false);
        Check.due("LAW 0 as it was", x.look(10), 0);
        Check.due("fault() goes on", x.fault(0), 1);
        Check.due("its place too", x.fault(1), 5);
        Check.due("the TAPE goes on", x.end(5), true);
        Check.due("the TAPE has no more", x.end(6), false);
        Check.due("its text", x.text(0), 1);
        x.image(false);
        Check.due("the TAPE is empty, not as it was", x.end(1), false);
    }

    private static void looks() {
        Check.sentence("10 + k lines of LAW k, 20 + p CHANGES of PLACE p, 30 + c FACTS of claim c");
        RanOut x = new RanOut();
        for (int k = 0; k < 8; k++) {
            Check.tell(x, k, "roll;".repeat(k + 1));
        }
        for (int p = 0; p < 6; p++) {
            for (int n = 1; n <= p % 5; n++) {
                x.change(p, n, 0, true);
            }
        }
        for (int c = 0; c < 3; c++) {
            x.claim(0, 0, 0, 0, 0, 0);
            for (int f = 0; f <= c; f++) {
                x.fact(c, 4, 0, 0);
            }
        }
        for (int k = 0; k < 8; k++) {
            Check.due("LAW " + k, x.look(10 + k), k + 1);
        }
        for (int p = 0; p < 6; p++) {
            Check.due("PLACE " + p, x.look(20 + p), p % 5);
        }
        for (int c = 0; c < 3; c++) {
            Check.due("claim " + c, x.look(30 + c), c + 1);
        }
        int[] others = {8, 9, 18, 19, 26, 27, 28, 29, 33, 89, 90, 1000};
        for (int what : others) {
            Check.due("NONE for " + what, x.look(what), -1);
        }
        Check.sentence("3 how many are ALIVE TODAY, 4 their SUM");
        x = Check.with("term 10 days from done;");
        x.claim(0, 0, 1, 0, 0, 0);
        x.claim(0, 0, 20, 1, 1, 1);
        x.claim(0, 0, 300, 50, 50, 50);
        x.today(10);
        Check.due("on the LAST DAY", x.look(3), 3);
        Check.due("their SUM", x.look(4), 321);
        x.today(11);
        Check.due("a day behind", x.look(3), 2);
        Check.due("their SUM", x.look(4), 320);
        Check.sentence("5 how many are KEPT for ever (also on a day behind TODAY)");
        x.fact(2, 7, 60, 60);
        x.fact(0, 7, 11, 11);
        x.fact(1, 7, 11, 11);
        Check.due("two, one on a day behind; one was DEAD", x.look(5), 2);
        Check.due("ALIVE", x.look(3), 2);
        Check.sentence("3 .. ALIVE, 4 their SUM, 5 .. KEPT, 6 WANTED: each by itself");
        x.want(0, true);
        Check.due("one that is DEAD is WANTED", x.look(6), 1);
        Check.due("ALIVE are others", x.look(3), 2);
        Check.due("their SUM", x.look(4), 320);
        Check.due("KEPT are others", x.look(5), 2);
    }
}
