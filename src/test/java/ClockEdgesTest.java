/** A test for each sentence that names an edge of THE CLOCK: the third part of "Terms", promises 13 to 16. */
public final class ClockEdgesTest {
    public static void main(String[] args) {
        fromDoneOn();
        firstTermLine();
        suits();
        renewals();
        renewalsAnyFact();
        behindF();
        stops();
        endsByTerm();
        endsByLong();
        rolls();
        rollsOverManyDays();
        livesThrough();
        withoutEnd();
        lastAnswers();
        howItStands();
        notYet();
        ended();
        aheadOfDone();
        aheadOfDoneBehindAnother();
        spanOrder();
        spanOfAll();
        hangs();
        changedByLast();
        changedEdges();
        lastOfAllDays();
        askedAgain();
        Check.leave("ClockEdgesTest");
    }

    private static void fromDoneOn() {
        Check.sentence("THE CLOCK of a claim goes day by day, from DONE on");
        RanOut x = Check.with("term 10 days from done;renew ask;stop child;");
        x.claim(0, 0, 0, 100, 100, 100);
        x.fact(0, 7, 99, 99);
        Check.due("a suit a day ahead of DONE", x.last(0), 110);
        x.fact(0, 4, 99, 99);
        Check.due("an ask a day ahead", x.step(0, 99, 3), 0);
        x.fact(0, 0, 0, 100);
        Check.due("a child up to DONE", x.last(0), 110);
        x.fact(0, 0, 0, 101);
        Check.due("a child up to the day behind", x.last(0), 111);
        x.fact(0, 4, 100, 100);
        Check.due("an ask on DONE", x.step(0, 100, 3), 3);
        x.fact(0, 7, 100, 100);
        Check.due("a suit on DONE", x.last(0), -2);
        x = Check.with("term 1 days from done;");
        x.claim(0, 0, 0, 0, 0, 0);
        x.claim(0, 0, 0, 2999, 2999, 2999);
        Check.due("from the first day", x.last(0), 1);
        Check.due("from the last day", x.last(1), 3000);
    }

    private static void firstTermLine() {
        Check.sentence("TERM: N U of the first term line whose B is so (or that has none); without one it has no TERM");
        RanOut x = Check.with("long 400 days from done;term 9 days from due when kind=1;term 8 days from done when kind<3;term 7 days from known;");
        for (int kind = 1; kind <= 3; kind++) {
            x.claim(0, kind, 0, 10, 20, 30);
        }
        Check.due("the first of all", x.last(0), 39);
        Check.due("the second", x.last(1), 18);
        Check.due("the one without B", x.last(2), 27);
        Check.due("its TERM", x.step(0, 10, 1), 9);
        Check.due("its TERM", x.step(1, 10, 1), 8);
        Check.due("its TERM", x.step(2, 10, 1), 7);
        Check.tell(x, 0, "term 5 days from done when kind=2;stop war;");
        Check.due("without one", x.step(0, 10, 1), -1);
        Check.due("no end", x.last(0), -1);
        Check.due("with one", x.last(1), 15);
        x = Check.with("term 50 days from done when year=0 or year>1;");
        x.claim(0, 0, 0, 340, 340, 340);
        Check.due("it has one", x.step(0, 364, 1), 50);
        Check.due("24 ran", x.step(0, 364, 0), 24);
        Check.due("it has none any more", x.step(0, 365, 1), -1);
        Check.due("and does not run", x.step(0, 729, 0), 24);
        Check.due("and again one", x.step(0, 730, 1), 50);
        Check.due("it goes on from there", x.last(0), 755);
    }

    private static void suits() {
        Check.sentence("(1) a FACT suit on d: the claim is KEPT for ever");
        RanOut x = Check.with("term 10 days from done;renew suit;stop suit;long 10 days from done;");
        for (int day = 9; day <= 11; day++) {
            x.claim(0, 0, 0, 0, 0, 0);
            x.fact(day - 9, 7, day, day);
        }
        Check.due("a day ahead of its end", x.last(0), -2);
        Check.due("on the day of its end", x.last(1), -2);
        Check.due("a day behind", x.last(2), 10);
        Check.due("neither renewed nor stopped: it stands", x.step(0, 9, 3), 6);
        Check.due("nor has the day run", x.step(0, 9, 0), 8);
        Check.due("for ever", x.step(0, 4999, 3), 6);
        x = new RanOut();
        x.claim(0, 0, 0, 0, 0, 0);
        x.fact(0, 7, 2999, 2999);
        Check.due("without a LAW too", x.last(0), -2);
        Check.due("a day ahead", x.step(0, 2998, 3), 0);
        Check.due("on it", x.step(0, 2999, 3), 6);
        x = Check.with("term 5 days from done;roll;");
        x.claim(0, 0, 0, 0, 0, 0);
        x.fact(0, 7, 6, 6);
        Check.due("on a day OFF behind its TERM", x.last(0), -2);
    }

    private static void renewals() {
        Check.sentence("(2) a FACT on d .. that has a renew line for its SORT whose B is so (or that has none): ran is 0");
        String[] sorts = {"ask", "pay", "letter"};
        for (int s = 0; s < 3; s++) {
            RanOut x = Check.with("term 20 days from done;renew " + sorts[s] + ";");
            for (int sort = 4; sort <= 6; sort++) {
                x.claim(0, 0, 0, 0, 0, 0);
                x.fact(sort - 4, sort, 15, 15);
                Check.due(sorts[s] + " by sort " + sort, x.last(sort - 4), sort == s + 4 ? 35 : 20);
            }
        }
        RanOut x = Check.with("term 10 days from done;renew ask when kind=1;renew ask when kind=2;");
        for (int kind = 0; kind < 3; kind++) {
            x.claim(0, kind, 0, 0, 0, 0);
            x.fact(kind, 4, 10, 10);
        }
        Check.due("no line is so", x.last(0), 10);
        Check.due("the first is so, on the day it would end", x.last(1), 20);
        Check.due("the second is so", x.last(2), 20);
        Check.due("ran", x.step(1, 9, 0), 9);
        Check.due("ran is 0", x.step(1, 10, 0), 0);
        Check.due("ran", x.step(1, 11, 0), 1);
        x.fact(0, 4, 11, 11);
        Check.due("a day too late", x.last(0), 10);
        Check.sentence("(2) .. (3) else: a day that is renewed does not run, nor is it STOPPED");
        x = Check.with("term 10 days from done;renew ask;stop ask;stop child;");
        x.claim(0, 0, 0, 0, 0, 0);
        x.fact(0, 4, 5, 5);
        x.fact(0, 0, 5, 5);
        Check.due("it stands", x.step(0, 5, 3), 3);
        Check.due("ran", x.step(0, 5, 0), 0);
        Check.due("last", x.last(0), 15);
        Check.sentence("(2) holds without a TERM and ahead of F too");
        x = Check.with("renew ask;term 10 days from due when year=1;");
        x.claim(0, 0, 0, 0, 0, 400);
        x.fact(0, 4, 5, 5);
        x.fact(0, 4, 370, 370);
        Check.due("without a TERM", x.step(0, 5, 3), 3);
        Check.due("ahead of F", x.step(0, 370, 3), 3);
        Check.due("last", x.last(0), 410);
    }

    private static void renewalsAnyFact() {
        Check.sentence("(2) a FACT on d, from first to last");
        RanOut x = Check.with("term 20 days from done;renew letter;");
        x.claim(0, 0, 0, 0, 0, 0);
        x.fact(0, 4, 15, 15);
        x.fact(0, 5, 15, 15);
        Check.due("none of them has a line", x.last(0), 20);
        x.fact(0, 6, 15, 15);
        Check.due("the last has", x.last(0), 35);
        x.fact(0, 6, 15, 15);
        Check.due("twice is once", x.last(0), 35);
        for (int f = 4; f < 12; f++) {
            x.fact(0, 4, 15, 15);
        }
        Check.due("the third of twelve", x.last(0), 35);
        Check.sentence("(2) a FACT on d; (3) a FACT is on d, or lasts on it: what lasts renews nothing");
        x = Check.with("term 20 days from done;renew child;renew abroad;renew war;renew talks;");
        x.claim(0, 0, 0, 0, 0, 0);
        for (int sort = 0; sort < 4; sort++) {
            x.fact(0, sort, 10, 10);
            x.fact(0, sort, 12, 14);
        }
        Check.due("last", x.last(0), 20);
    }

    private static void behindF() {
        Check.sentence("(3) with a TERM, and d behind the day F of that line");
        RanOut x = Check.with("term 10 days from done when kind=0;term 10 days from known when kind=1;term 10 days from due;");
        for (int kind = 0; kind < 3; kind++) {
            x.claim(0, kind, 0, 50, 60, 70);
            int f = 50 + 10 * kind;
            Check.due("on F", x.step(kind, f, 3), 0);
            Check.due("on F", x.step(kind, f, 0), 0);
            Check.due("a day behind F", x.step(kind, f + 1, 3), 1);
            Check.due("a day behind F", x.step(kind, f + 1, 0), 1);
            Check.due("last", x.last(kind), f + 10);
        }
    }

    private static void stops() {
        Check.sentence("(3) if a FACT is on d, or lasts on it, that has a stop line likewise, the day is STOPPED, else ran is one more");
        RanOut x = Check.with("term 10 days from done;stop war when kind=1;stop war when kind=2;stop letter;");
        for (int kind = 0; kind < 3; kind++) {
            x.claim(0, kind, 0, 0, 0, 0);
            x.fact(kind, 2, 4, 6);
        }
        Check.due("no line is so", x.last(0), 10);
        Check.due("the first is so", x.last(1), 13);
        Check.due("the second is so", x.last(2), 13);
        int[] stands = {1, 2, 2, 2, 1};
        for (int day = 3; day <= 7; day++) {
            Check.due("day " + day, x.step(1, day, 3), stands[day - 3]);
        }
        Check.due("ran ahead", x.step(1, 3, 0), 3);
        Check.due("ran stands still", x.step(1, 6, 0), 3);
        Check.due("ran goes on", x.step(1, 7, 0), 4);
        x.fact(1, 2, 5, 8);
        Check.due("two at once stop once", x.last(1), 15);
        x.fact(0, 6, 10, 10);
        Check.due("on the day it would end", x.last(0), 11);
        x.fact(0, 6, 11, 11);
        Check.due("and on the next", x.last(0), 12);
        x.fact(0, 6, 13, 13);
        Check.due("a day too late", x.last(0), 12);
    }

    private static void endsByTerm() {
        Check.sentence("(4) the claim ENDS on d, if it has a TERM and ran is not below it");
        RanOut x = Check.with("term 10 days from done;");
        x.claim(0, 0, 0, 0, 0, 0);
        Check.due("below", x.step(0, 9, 3), 1);
        Check.due("as much", x.step(0, 10, 3), 4);
        Check.due("ran", x.step(0, 10, 0), 10);
        x = Check.with("term 30 days from done;stop child;");
        Check.tell(x, 1, "term 11 days from due;stop child;");
        Check.tell(x, 2, "term 12 days from due;stop child;");
        x.change(0, 12, 1, true);
        x.change(1, 12, 2, true);
        x.claim(0, 0, 0, 0, 0, 500);
        x.claim(1, 0, 0, 0, 0, 500);
        x.claim(0, 0, 0, 0, 0, 0);
        x.fact(2, 0, 12, 14);
        Check.due("11 ran, not below 11, though F is not gone", x.last(0), 12);
        Check.due("11 ran, below 12", x.last(1), 501);
        Check.due("STOPPED, yet not below", x.last(2), 12);
        Check.due("it stands", x.step(2, 12, 3), 4);
        Check.due("ran", x.step(2, 12, 0), 11);
    }

    private static void endsByLong() {
        Check.sentence("(4) .. or if d is not ahead of the day F and N U of some long line whose B is so (or that has none)");
        RanOut x = Check.with("term 90 days from done;stop child;long 20 days from done when kind=0;long 20 days from known when kind=1;"
            + "long 20 days from due;long 99 days from done;");
        for (int kind = 0; kind < 3; kind++) {
            x.claim(0, kind, 0, 50, 60, 70);
            Check.due("the first that comes", x.last(kind), 70 + 10 * kind);
            Check.due("a day ahead", x.step(kind, 69 + 10 * kind, 3), 1);
            Check.due("on it", x.step(kind, 70 + 10 * kind, 3), 4);
        }
        x.fact(2, 0, 60, 95);
        Check.due("whatever stops", x.last(2), 90);
        x = Check.with("long 20 days from done when year=1;");
        x.claim(0, 0, 0, 0, 0, 0);
        Check.due("its B is so later", x.last(0), 365);
        Check.due("a day ahead it is not", x.step(0, 364, 3), 0);
        Check.sentence("B is asked on each day: of renew and stop lines too");
        x = Check.with("term 900 days from done;renew ask when year=1;stop pay when year=1;renew letter when year<2;stop letter when year=2;");
        x.claim(0, 0, 0, 0, 0, 0);
        int[] days = {364, 365, 729, 730};
        int[][] stands = {{1, 1, 3}, {3, 2, 3}, {3, 2, 3}, {1, 1, 2}};
        for (int sort = 4; sort <= 6; sort++) {
            for (int i = 0; i < days.length; i++) {
                x.claim(0, 0, 0, 0, 0, 0);
                int c = x.look(1) - 1;
                x.fact(c, sort, days[i], days[i]);
                Check.due("sort " + sort + " on " + days[i], x.step(c, days[i], 3), stands[i][sort - 4]);
            }
        }
        x = Check.with("long 1 days from done;");
        x.claim(0, 0, 0, 2999, 2999, 2999);
        Check.due("a single day", x.last(0), 3000);
        Check.due("on DONE not", x.step(0, 2999, 3), 0);
        x = Check.with("term 90 days from done;");
        Check.tell(x, 1, "term 90 days from done;long 5 days from done;");
        x.change(0, 40, 1, true);
        x.claim(0, 0, 0, 0, 0, 0);
        Check.due("a new LAW under which it is long over", x.last(0), 40);
    }

    private static void rolls() {
        Check.sentence("If THE LAW has roll and d is OFF, it does not end on d (the next day is like every other one)");
        RanOut x = Check.with("term 5 days from done;roll;");
        x.claim(0, 0, 0, 0, 0, 0);
        x.claim(0, 0, 0, 1, 1, 1);
        Check.due("Saturday", x.step(0, 5, 3), 7);
        Check.due("Sunday", x.step(0, 6, 3), 7);
        Check.due("Monday", x.step(0, 7, 3), 4);
        Check.due("the next days run", x.step(0, 7, 0), 7);
        Check.due("Sunday to Monday", x.last(1), 7);
        x.holiday(7);
        Check.due("a HOLIDAY", x.last(0), 8);
        x.holiday(8);
        Check.due("and another", x.last(0), 9);
        Check.due("it stands", x.step(0, 8, 3), 7);
        Check.tell(x, 0, "term 5 days from done;");
        Check.due("without roll", x.last(0), 5);
        Check.tell(x, 0, "long 5 days from done;roll;");
        Check.due("a longest end rolls too", x.last(0), 9);
        Check.tell(x, 0, "roll;term 5 days from done;renew ask;");
        x.fact(0, 4, 6, 6);
        Check.due("renewed on the day OFF", x.step(0, 6, 3), 3);
        Check.due("it begins anew", x.last(0), 11);
        x = Check.with("term 5 days from done when ran<5;roll;");
        x.claim(0, 0, 0, 0, 0, 0);
        Check.due("on Sunday it has no TERM any more", x.step(0, 6, 3), 0);
        Check.due("no end", x.last(0), -1);
        x = Check.with("term 5 days from done;roll;");
        Check.tell(x, 1, "term 5 days from done;");
        x.change(0, 6, 1, true);
        x.claim(0, 0, 0, 0, 0, 0);
        Check.due("a LAW without roll from Sunday on", x.last(0), 6);
        x = Check.with("term 5 days from done;");
        Check.tell(x, 1, "roll;");
        x.claim(0, 0, 0, 0, 0, 0);
        Check.due("the roll of another LAW", x.last(0), 5);
    }

    private static void rollsOverManyDays() {
        Check.sentence("OFF are Saturdays, Sundays and HOLIDAYS (20 at most), all in a row");
        RanOut x = Check.with("term 5 days from done;roll;");
        x.claim(0, 0, 0, 0, 0, 0);
        for (int day = 7; day < 35; day++) {
            if (day % 7 < 5) {
                x.holiday(day);
            }
        }
        Check.due("four weeks later", x.last(0), 35);
        Check.due("the last day OFF", x.step(0, 34, 3), 7);
    }

    private static void livesThrough() {
        Check.sentence("The day on which it ENDS is its LAST DAY: it lives through that day and is DEAD from the next one on");
        RanOut x = Check.with("term 10 days from done;renew ask;");
        x.claim(0, 0, 8, 0, 0, 0);
        Check.due("ahead", x.step(0, 9, 3), 1);
        Check.due("ENDS", x.step(0, 10, 3), 4);
        Check.due("DEAD", x.step(0, 11, 3), 5);
        Check.due("DEAD", x.step(0, 4999, 3), 5);
        x.today(10);
        Check.due("ALIVE", x.look(3), 1);
        x.today(11);
        Check.due("not", x.look(3), 0);
        x.fact(0, 4, 11, 11);
        x.fact(0, 7, 11, 11);
        Check.due("nothing wakes it", x.last(0), 10);
    }

    private static void withoutEnd() {
        Check.sentence("Without an end up to day 4999 it has none");
        RanOut x = Check.with("term 2000 days from done when kind=0;term 2001 days from done when kind=1;"
            + "long 2000 days from done when kind=2;long 2001 days from done when kind=3;");
        for (int kind = 0; kind < 4; kind++) {
            x.claim(0, kind, 0, 2999, 2999, 2999);
        }
        Check.due("4999 by TERM", x.last(0), 4999);
        Check.due("5000 by TERM", x.last(1), -1);
        Check.due("4999 by long", x.last(2), 4999);
        Check.due("5000 by long", x.last(3), -1);
        Check.due("it ENDS", x.step(0, 4999, 3), 4);
        Check.due("it runs", x.step(1, 4999, 3), 1);
        Check.due("ran", x.step(1, 4999, 0), 2000);
        x.today(2999);
        Check.due("ALIVE", x.look(3), 4);
        Check.due("ALIVE at the last day that can be asked", x.cheapest(3399, 0), 0);
    }

    private static void lastAnswers() {
        Check.sentence("last(): LAST DAY; NONE: none; NONE - 1: KEPT; NONE - 2 if there is no such claim");
        RanOut x = Check.with("term 10 days from done when kind=0;");
        x.claim(0, 0, 0, 0, 0, 0);
        x.claim(0, 1, 0, 0, 0, 0);
        x.claim(0, 1, 0, 0, 0, 0);
        x.fact(2, 7, 9, 9);
        Check.due("a day", x.last(0), 10);
        Check.due("none", x.last(1), -1);
        Check.due("KEPT", x.last(2), -2);
        Check.due("no such claim", x.last(3), -3);
        Check.due("no such claim", x.last(-1), -3);
        Check.sentence("LAST DAY (FACTS as told, CONTESTED ones as being so)");
        x.doubt(2, 0, 6);
        Check.due("CONTESTED", x.last(2), -2);
        x.fact(0, 7, 10, 10);
        x.doubt(0, 0, 5);
        Check.due("in DOUBT", x.last(0), -2);
        Check.due("in DOUBT, too late", x.span(0, 0), 10);
    }

    private static void howItStands() {
        Check.sentence("how it stands: 0 not yet, 1 runs, 2 STOPPED, 3 renewed, 4 ENDS, 5 DEAD, 6 KEPT, 7 it would have ended but for a day OFF");
        RanOut x = Check.with("term 4 days from known;stop war;renew ask;roll;");
        x.claim(0, 0, 0, 2, 3, 3);
        x.fact(0, 4, 5, 5);
        x.fact(0, 2, 7, 8);
        x.holiday(11);
        int[] stands = {0, 0, 0, 0, 1, 3, 1, 2, 2, 1, 1, 7, 7, 7, 4, 5};
        int[] ran = {0, 0, 0, 0, 1, 0, 1, 1, 1, 2, 3, 4, 5, 6, 7, 7};
        for (int day = 0; day < stands.length; day++) {
            Check.due("how on " + day, x.step(0, day, 3), stands[day]);
            Check.due("ran on " + day, x.step(0, day, 0), ran[day]);
        }
        x.fact(0, 7, 13, 13);
        Check.due("a suit on Sunday", x.step(0, 12, 3), 7);
        Check.due("a suit on Sunday", x.step(0, 13, 3), 6);
        Check.due("a suit on Sunday", x.step(0, 14, 3), 6);
    }

    private static void notYet() {
        Check.sentence("0 not yet (ahead of DONE, or no TERM, or not behind F)");
        RanOut x = Check.with("term 10 days from due when year<1 or year>1;stop child;");
        x.claim(0, 0, 0, 300, 300, 310);
        x.fact(0, 0, 295, 312);
        Check.due("ahead of DONE", x.step(0, 299, 3), 0);
        Check.due("on DONE", x.step(0, 300, 3), 0);
        Check.due("on F", x.step(0, 310, 3), 0);
        Check.due("behind F, STOPPED", x.step(0, 311, 3), 2);
        Check.due("behind F", x.step(0, 313, 3), 1);
        x.claim(0, 0, 0, 360, 360, 360);
        Check.due("it runs", x.step(1, 364, 3), 1);
        Check.due("no TERM", x.step(1, 365, 3), 0);
        Check.due("no TERM", x.step(1, 729, 3), 0);
        Check.due("again", x.step(1, 730, 3), 1);
    }

    private static void ended() {
        Check.sentence("(5, 6: ran, TERM, THE LAW as on the day on which it ended, or was KEPT)");
        RanOut x = Check.with("term 10 days from done when year=0;term 20 days from done;");
        Check.tell(x, 1, "term 99 days from done;");
        x.claim(0, 0, 0, 0, 0, 0);
        x.claim(0, 0, 0, 0, 0, 0);
        x.fact(1, 7, 6, 6);
        x.change(0, 100, 1, true);
        int[] days = {11, 99, 100, 400, 4999};
        for (int day : days) {
            Check.due("ran on " + day, x.step(0, day, 0), 10);
            Check.due("TERM on " + day, x.step(0, day, 1), 10);
            Check.due("THE LAW on " + day, x.step(0, day, 2), 0);
            Check.due("how on " + day, x.step(0, day, 3), 5);
            Check.due("KEPT: ran on " + day, x.step(1, day, 0), 5);
            Check.due("KEPT: TERM on " + day, x.step(1, day, 1), 10);
            Check.due("KEPT: THE LAW on " + day, x.step(1, day, 2), 0);
            Check.due("KEPT: how on " + day, x.step(1, day, 3), 6);
        }
        x = Check.with("long 5 days from done;");
        x.claim(0, 0, 0, 0, 0, 0);
        Check.due("TERM (NONE without)", x.step(0, 4999, 1), -1);
        Check.due("ran", x.step(0, 4999, 0), 0);
    }

    private static void aheadOfDone() {
        Check.sentence("(ahead of DONE ran 0, TERM and THE LAW as on that day)");
        RanOut x = Check.with("term 10 days from done when year=0;term 20 days from done when ran=0;");
        Check.tell(x, 1, "term 99 days from done;");
        x.change(0, 400, 1, true);
        x.claim(0, 0, 0, 500, 500, 500);
        int[][] due = {{0, 10, 0}, {364, 10, 0}, {365, 20, 0}, {399, 20, 0}, {400, 99, 1}, {499, 99, 1}, {500, 99, 1}};
        for (int[] d : due) {
            Check.due("ran on " + d[0], x.step(0, d[0], 0), 0);
            Check.due("TERM on " + d[0], x.step(0, d[0], 1), d[1]);
            Check.due("THE LAW on " + d[0], x.step(0, d[0], 2), d[2]);
            Check.due("how on " + d[0], x.step(0, d[0], 3), 0);
        }
    }

    /** What was asked of one claim must not show in another. */
    private static void aheadOfDoneBehindAnother() {
        Check.sentence("(ahead of DONE ran 0): also where another claim's days ran");
        RanOut x = Check.with("term 10 days from done when ran=0;term 90 days from done;");
        x.claim(0, 0, 0, 0, 0, 0);
        x.claim(0, 0, 0, 500, 500, 500);
        Check.due("the first one's TERM", x.step(0, 40, 1), 90);
        Check.due("the second one's", x.step(1, 40, 1), 10);
        Check.due("ran", x.step(1, 40, 0), 0);
    }

    private static void spanOrder() {
        Check.sentence("SPAN: the earliest and the latest LAST DAY (none is later than all; KEPT is later than none)");
        RanOut x = Check.with("term 10 days from done when ran<8;renew ask;");
        x.claim(0, 0, 0, 0, 0, 0);
        x.claim(0, 0, 0, 0, 0, 0);
        x.fact(1, 7, 100, 100);
        x.doubt(1, 0, 6);
        Check.due("none", x.last(0), -1);
        Check.due("none, the earliest", x.span(0, 0), -1);
        Check.due("none, the latest", x.span(0, 1), -1);
        Check.due("none is earlier than KEPT", x.span(1, 0), -1);
        Check.due("KEPT is later than none", x.span(1, 1), -2);
        x = Check.with("term 10 days from done when kind=0;term 2995 days from done when kind=1;renew ask;");
        x.claim(0, 0, 0, 0, 0, 0);
        x.fact(0, 7, 10, 10);
        x.doubt(0, 0, 6);
        Check.due("a day is earlier than KEPT", x.span(0, 0), 10);
        Check.due("KEPT is later than a day", x.span(0, 1), -2);
        x.claim(0, 1, 0, 2000, 2000, 2000);
        x.fact(1, 4, 2002, 2002);
        x.doubt(1, 0, 5);
        Check.due("2002 and 2995 days is 4997", x.last(1), 4997);
        Check.due("a day is earlier than none", x.span(1, 0), 4997);
        Check.due("none is later than a day", x.span(1, 1), -1);
        x.doubt(1, 0, 2);
        Check.due("4999 is a day", x.span(1, 1), 4999);
        x.doubt(1, 0, 6);
        Check.due("without it", x.span(1, 0), 4995);
        x.fact(1, 7, 2990, 2990);
        Check.due("KEPT anyhow", x.span(1, 0), -2);
        Check.due("KEPT anyhow", x.span(1, 1), -2);
    }

    private static void spanOfAll() {
        Check.sentence("over all days that DOUBTS leave, and CONTESTED ones being so or not");
        RanOut x = Check.with("term 100 days from done;stop ask;stop pay;stop child;stop war;");
        x.claim(0, 0, 0, 0, 0, 0);
        x.fact(0, 4, 10, 10);
        x.fact(0, 5, 15, 15);
        x.fact(0, 0, 30, 32);
        x.fact(0, 2, 50, 56);
        Check.due("all sure", x.last(0), 112);
        x.doubt(0, 0, 5);
        Check.due("the ask may be on the day of the payment", x.span(0, 0), 111);
        Check.due("or not", x.span(0, 1), 112);
        x.doubt(0, 1, 5);
        Check.due("both may move", x.span(0, 0), 111);
        Check.due("both may move", x.span(0, 1), 112);
        x.doubt(0, 2, 6);
        x.doubt(0, 3, 6);
        Check.due("neither child nor war, both on one day", x.span(0, 0), 101);
        Check.due("all, on unlike days", x.span(0, 1), 112);
        Check.due("both matter", x.span(0, 2), 12);
        x.doubt(0, 0, 4);
        Check.due("the ask up to 14, the payment from 15 on", x.span(0, 0), 102);
        x.fact(0, 4, 99, 99);
        Check.due("a sure one more", x.span(0, 0), 103);
        Check.due("a sure one more", x.span(0, 1), 113);
    }

    private static void hangs() {
        Check.sentence("HANGS: which CONTESTED FACTS matter: for which, all else as told, the LAST DAY is another one without it");
        RanOut x = Check.with("term 20 days from done;renew ask;");
        x.claim(0, 0, 0, 0, 0, 0);
        x.fact(0, 5, 5, 5);
        x.fact(0, 4, 10, 10);
        x.fact(0, 4, 12, 12);
        x.doubt(0, 0, 6);
        x.doubt(0, 1, 6);
        Check.due("neither: one has no line, the other one a later one", x.span(0, 2), 0);
        x.doubt(0, 0, 0);
        x.doubt(0, 2, 6);
        Check.due("the later one", x.span(0, 2), 4);
        Check.due("though both together would matter more", x.span(0, 0), 20);
        x.doubt(0, 2, 5);
        Check.due("one in DOUBT is none", x.span(0, 2), 0);
        x.fact(0, 7, 30, 30);
        x.doubt(0, 2, 0);
        x.doubt(0, 3, 6);
        Check.due("KEPT or a day", x.span(0, 2), 8);
        x = Check.with("term 20 days from done when ran<5;");
        x.claim(0, 0, 0, 0, 0, 0);
        x.fact(0, 7, 2999, 2999);
        x.doubt(0, 0, 6);
        Check.due("KEPT or none", x.span(0, 2), 1);
        x.fact(0, 7, 2998, 2998);
        Check.due("KEPT either way", x.span(0, 2), 0);
    }

    private static void changedByLast() {
        Check.sentence("CHANGED by the last CHANGE of a PLACE: the claims there that would have another LAST DAY without it");
        RanOut x = Check.with("term 20 days from done;");
        Check.tell(x, 1, "term 30 days from done;");
        Check.tell(x, 2, "");
        x.claim(1, 0, 0, 10, 10, 10);
        x.claim(0, 0, 0, 3, 3, 3);
        x.claim(0, 0, 0, 4, 4, 4);
        x.claim(0, 0, 0, 5, 5, 5);
        x.claim(0, 0, 0, 6, 6, 6);
        x.change(0, 25, 1, true);
        Check.due("their LAST DAYS are 23, 24, 25, 26: one that ends on the CHANGE too", x.changed(0, 0), 2);
        Check.due("the first", x.changed(0, 1), 3);
        x.change(0, 26, 2, true);
        Check.due("none instead of a day", x.changed(0, 0), 2);
        x.fact(3, 7, 30, 30);
        Check.due("KEPT instead of KEPT", x.changed(0, 0), 1);
        Check.due("the other one", x.changed(0, 1), 4);
        x.fact(4, 7, 36, 36);
        Check.due("KEPT with and without", x.changed(0, 0), 0);
        x = Check.with("term 20 days from done;");
        x.claim(0, 0, 0, 5, 5, 5);
        x.fact(0, 7, 40, 40);
        x.change(0, 10, 2, true);
        Check.due("KEPT instead of a day", x.changed(0, 0), 1);
        x.change(0, 11, 0, true);
        Check.due("and back by the last", x.changed(0, 0), 1);
        x.change(0, 12, 0, true);
        Check.due("the same LAW once more", x.changed(0, 0), 0);
        Check.due("none", x.changed(0, 1), -1);
    }

    private static void changedEdges() {
        Check.sentence("changed(): NONE if there was no CHANGE, one can't be, or another what");
        RanOut x = Check.with("term 20 days from done;");
        Check.tell(x, 7, "term 30 days from done;");
        x.claim(5, 0, 0, 1, 1, 1);
        x.claim(5, 0, 0, 2, 2, 2);
        Check.due("no CHANGE", x.changed(5, 0), -1);
        Check.due("no CHANGE", x.changed(5, 1), -1);
        x.change(5, 2, 7, false);
        Check.due("the new one alone", x.changed(5, 0), 1);
        Check.due("the new one alone", x.changed(5, 1), 1);
        Check.due("what 2", x.changed(5, 2), -1);
        Check.due("what -1", x.changed(5, -1), -1);
        Check.due("PLACE 6", x.changed(6, 0), -1);
        Check.due("PLACE -1", x.changed(-1, 0), -1);
        Check.due("a PLACE without", x.changed(4, 0), -1);
        x.change(4, 9, 7, true);
        Check.due("a PLACE without claims: how many", x.changed(4, 0), 0);
        Check.due("a PLACE without claims: the first", x.changed(4, 1), -1);
    }

    private static void lastOfAllDays() {
        Check.sentence("Without an end up to day 4999 it has none: in SPAN, HANGS, CHANGED and PAY NOTHING alike");
        int[] terms = {1998, 1999, 2000, 2001, 2002};
        for (int term : terms) {
            RanOut x = Check.with("term " + term + " days from done;stop pay;stop ask;");
            x.claim(0, 0, 0, 2998, 2998, 2998);
            int last = day(2998 + term);
            int stopped = day(2999 + term);
            Check.due("last by " + term, x.last(0), last);
            x.today(2999);
            Check.due("pay by " + term, x.pay(0), last < 0 ? 0 : stopped < 0 ? 99999 : 1);
            x.fact(0, 4, 2999, 2999);
            x.doubt(0, 0, 6);
            Check.due("last, asked, by " + term, x.last(0), stopped);
            Check.due("the earliest by " + term, x.span(0, 0), last);
            Check.due("the latest by " + term, x.span(0, 1), stopped);
            Check.due("HANGS by " + term, x.span(0, 2), last == stopped ? 0 : 1);
            Check.tell(x, 1, "term " + term + " days from done;");
            x.change(0, 2999, 1, true);
            Check.due("CHANGED by " + term, x.changed(0, 0), last == stopped ? 0 : 1);
            x.claim(1, 0, 0, 2998, 2998, 2998);
            x.change(1, 2999, 0, true);
            Check.due("not by the same LAW, " + term, x.changed(1, 0), 0);
        }
    }

    private static int day(int day) {
        return day > 4999 ? -1 : day;
    }

    private static void askedAgain() {
        Check.sentence("what was asked once is asked anew when something else is told");
        RanOut x = Check.with("term 18 days from done;stop child;roll;");
        Check.tell(x, 1, "term 21 days from done;stop child;");
        x.claim(0, 0, 7, 0, 0, 0);
        x.claim(0, 0, 9, 0, 0, 0);
        spanAndLast(x, 18, 18);
        x.holiday(18);
        spanAndLast(x, 21, 21);
        x.fact(0, 0, 5, 7);
        spanAndLast(x, 21, 21);
        x.fact(0, 0, 10, 10);
        spanAndLast(x, 22, 22);
        x.doubt(0, 1, 6);
        spanAndLast(x, 21, 22);
        x.doubt(0, 1, 0);
        spanAndLast(x, 22, 22);
        x.change(0, 20, 1, true);
        spanAndLast(x, 25, 25);
        x.place(0, 1);
        spanAndLast(x, 25, 25);
        Check.tell(x, 1, "term 22 days from done;stop child;");
        spanAndLast(x, 26, 26);
        x.fact(0, 7, 26, 26);
        spanAndLast(x, -2, -2);
        Check.due("the other one", x.last(1), 22);
    }

    private static void spanAndLast(RanOut x, int earliest, int latest) {
        Check.due("the latest", x.span(0, 1), latest);
        Check.due("the earliest", x.span(0, 0), earliest);
        Check.due("the LAST DAY", x.last(0), latest);
    }
}
