/** Promises 10 to 16: the clock of a claim, its steps and spans, and what a change of law does. */
public final class ClockTest {
    public static void main(String[] args) {
        terms();
        stops();
        renewals();
        longestEnds();
        rolls();
        kept();
        laws();
        steps();
        asked();
        spans();
        changed();
        Check.leave("ClockTest");
    }

    private static void terms() {
        RanOut x = Check.with("term 2 months from known when kind=1;term 1 years from due when kind=2;term 7 days from done when kind<5;");
        x.claim(0, 0, 0, 10, 20, 30);
        x.claim(0, 1, 0, 10, 20, 30);
        x.claim(0, 2, 0, 10, 20, 30);
        x.claim(0, 5, 0, 10, 20, 30);
        Check.due("7 days from done", x.last(0), 17);
        Check.due("2 months from known", x.last(1), 80);
        Check.due("1 year from due", x.last(2), 395);
        Check.due("no term", x.last(3), -1);
        Check.due("no such claim", x.last(4), -3);
        Check.due("no such claim", x.last(-1), -3);
        x = Check.with("term 4998 days from done;");
        x.claim(0, 0, 0, 0, 0, 0);
        x.claim(0, 0, 0, 1, 1, 1);
        x.claim(0, 0, 0, 2, 2, 2);
        Check.due("day 4998", x.last(0), 4998);
        Check.due("day 4999", x.last(1), 4999);
        Check.due("no end up to 4999", x.last(2), -1);
    }

    private static void stops() {
        RanOut x = Check.with("term 10 days from done;stop child;stop ask when kind=1;stop war when ran>2;");
        for (int kind = 0; kind < 2; kind++) {
            x.claim(0, kind, 0, 0, 0, 0);
        }
        x.fact(0, 0, 3, 5);
        x.fact(0, 0, 5, 6);
        Check.due("four days stopped", x.last(0), 14);
        x.fact(0, 1, 7, 8);
        Check.due("abroad stops nothing", x.last(0), 14);
        x.fact(1, 4, 3, 3);
        Check.due("a day that asks stops, for kind 1", x.last(1), 11);
        x.fact(0, 4, 9, 9);
        Check.due("not for kind 0", x.last(0), 14);
        x.fact(1, 2, 1, 6);
        Check.due("war stops behind three days that ran: 5 and 6", x.last(1), 13);
        Check.due("day 4 runs", x.step(1, 4, 3), 1);
        Check.due("day 5 is stopped", x.step(1, 5, 3), 2);
        x = Check.with("term 10 days from done;stop child;");
        x.claim(0, 0, 0, 100, 100, 100);
        x.fact(0, 0, 0, 102);
        Check.due("a child since before it was done", x.last(0), 112);
    }

    private static void renewals() {
        RanOut x = Check.with("term 10 days from due;renew ask;renew pay when ran>5;renew child;");
        x.claim(0, 0, 0, 0, 0, 5);
        x.fact(0, 4, 12, 12);
        Check.due("asked on 12", x.last(0), 22);
        x.fact(0, 5, 17, 17);
        Check.due("paid too early: five ran", x.last(0), 22);
        x.fact(0, 5, 18, 18);
        Check.due("paid behind six: not five", x.last(0), 22);
        x.fact(0, 5, 19, 19);
        Check.due("paid behind six", x.last(0), 29);
        Check.due("how it stands", x.step(0, 19, 3), 3);
        Check.due("its ran", x.step(0, 19, 0), 0);
        x.fact(0, 4, 29, 29);
        Check.due("asked on its last day", x.last(0), 39);
        x.fact(0, 4, 40, 40);
        Check.due("asked when it is dead", x.last(0), 39);
        x.fact(0, 0, 32, 34);
        Check.due("what lasts does not renew", x.last(0), 39);
        x.fact(0, 4, 3, 3);
        Check.due("renewed ahead of F", x.step(0, 3, 3), 3);
        Check.due("without an end for it", x.last(0), 39);
    }

    private static void longestEnds() {
        RanOut x = Check.with("term 10 days from done;long 15 days from known when kind>0;long 1 months from due;renew ask;");
        x.claim(0, 0, 0, 0, 2, 3);
        x.claim(0, 1, 0, 0, 2, 3);
        for (int day = 5; day < 50; day += 5) {
            x.fact(0, 4, day, day);
            x.fact(1, 4, day, day);
        }
        Check.due("30 days from 3", x.last(0), 33);
        Check.due("15 days from 2", x.last(1), 17);
        x = Check.with("long 5 days from done when ran=3;term 9 days from done;renew ask;");
        x.claim(0, 0, 0, 0, 0, 0);
        Check.due("ran is that behind the day before, and long asks it behind day 5 alone", x.last(0), 9);
        x.fact(0, 4, 3, 3);
        Check.due("ran is 3 behind day 6", x.last(0), 7);
        x = Check.with("long 5 days from done;");
        x.claim(0, 0, 0, 7, 7, 7);
        Check.due("an end without a term", x.last(0), 12);
        Check.due("how it stands then", x.step(0, 12, 3), 4);
        Check.due("and ahead", x.step(0, 11, 3), 0);
        x = Check.with("long 5 days from done;term 50 days from done;renew ask;");
        x.claim(0, 0, 0, 0, 0, 0);
        x.fact(0, 4, 5, 5);
        Check.due("renewed on the longest end", x.last(0), 5);
        Check.due("it ends", x.step(0, 5, 3), 4);
        Check.due("ran is 0", x.step(0, 5, 0), 0);
    }

    private static void rolls() {
        RanOut x = Check.with("term 5 days from done;roll;renew ask;stop war;");
        x.claim(0, 0, 0, 0, 0, 0);
        Check.due("Saturday to Monday", x.last(0), 7);
        Check.due("ran goes on", x.step(0, 7, 0), 7);
        Check.due("Sunday", x.step(0, 6, 3), 7);
        x.fact(0, 2, 6, 9);
        Check.due("stopped, but behind its term", x.last(0), 7);
        Check.due("ran stands still", x.step(0, 7, 0), 5);
        Check.due("Sunday", x.step(0, 6, 3), 7);
        x.fact(0, 4, 6, 6);
        Check.due("renewed on Sunday", x.last(0), 14);
        x = Check.with("term 5 days from done;");
        x.claim(0, 0, 0, 0, 0, 0);
        Check.due("without roll", x.last(0), 5);
    }

    private static void kept() {
        RanOut x = Check.with("term 5 days from done;renew suit;stop suit;");
        x.claim(0, 0, 0, 10, 10, 10);
        x.fact(0, 7, 9, 9);
        Check.due("a suit ahead of done", x.last(0), 15);
        x.fact(0, 7, 16, 16);
        Check.due("a suit behind the last day", x.last(0), 15);
        x.fact(0, 7, 15, 15);
        Check.due("a suit on the last day", x.last(0), -2);
        Check.due("it stands", x.step(0, 15, 3), 6);
        Check.due("and later", x.step(0, 4999, 3), 6);
        Check.due("ran as on that day", x.step(0, 4999, 0), 4);
        Check.due("term as on that day", x.step(0, 4999, 1), 5);
        Check.due("ahead of it", x.step(0, 14, 3), 1);
        x.claim(3, 0, 0, 10, 10, 10);
        x.fact(1, 7, 10, 10);
        Check.due("on the day it was done", x.last(1), -2);
    }

    private static void laws() {
        RanOut x = Check.with("term 20 days from done;");
        Check.tell(x, 1, "term 10 days from done;");
        Check.tell(x, 2, "term 40 days from done;");
        x.change(0, 15, 1, false);
        x.change(0, 18, 2, true);
        x.claim(0, 0, 0, 0, 0, 0);
        x.claim(0, 0, 0, 14, 14, 14);
        x.claim(0, 0, 0, 15, 15, 15);
        x.claim(1, 0, 0, 15, 15, 15);
        Check.due("law 0 for an old claim", x.step(0, 17, 2), 0);
        Check.due("law 0 for one done a day ahead", x.step(1, 17, 2), 0);
        Check.due("law 1 for a new one", x.step(2, 17, 2), 1);
        Check.due("law 2 for all", x.step(2, 18, 2), 2);
        Check.due("last", x.last(0), 40);
        Check.due("last", x.last(1), 54);
        Check.due("last", x.last(2), 55);
        Check.due("another place", x.last(3), 35);
        x.change(0, 30, 1, true);
        Check.due("ran 30 is not below 10: it ends at once", x.last(0), 30);
        Check.due("ran 15 too", x.last(2), 30);
        x = Check.with("term 20 days from done;");
        Check.tell(x, 1, "term 10 days from due;");
        x.change(0, 12, 1, true);
        x.claim(0, 0, 0, 0, 0, 900);
        Check.due("ran is not below the term, though not behind F", x.last(0), 12);
        Check.due("it ends", x.step(0, 12, 3), 4);
        Check.due("ran", x.step(0, 12, 0), 11);
        Check.tell(x, 1, "term 12 days from due;");
        Check.due("else it waits for F", x.last(0), 901);
        Check.due("not yet", x.step(0, 500, 3), 0);
        Check.due("ran stays", x.step(0, 500, 0), 11);
        Check.tell(x, 1, "stop war;");
        Check.due("no term", x.last(0), -1);
        Check.due("no term then", x.step(0, 12, 1), -1);
    }

    private static void steps() {
        RanOut x = Check.with("term 10 days from known when year=0;term 30 days from known;stop talks;");
        x.claim(0, 0, 0, 360, 362, 362);
        x.fact(0, 3, 365, 366);
        int[] stands = {0, 0, 0, 1, 1, 2, 2, 1};
        int[] ran = {0, 0, 0, 1, 2, 2, 2, 3};
        for (int day = 360; day <= 367; day++) {
            Check.due("how on " + day, x.step(0, day, 3), stands[day - 360]);
            Check.due("ran on " + day, x.step(0, day, 0), ran[day - 360]);
            Check.due("term on " + day, x.step(0, day, 1), day < 365 ? 10 : 30);
        }
        Check.due("ahead of done: the term as on that day", x.step(0, 0, 1), 10);
        Check.due("ahead of done: not yet", x.step(0, 359, 3), 0);
        Check.due("last", x.last(0), 394);
        Check.due("ends", x.step(0, 394, 3), 4);
        Check.due("ran", x.step(0, 394, 0), 30);
        Check.due("dead", x.step(0, 395, 3), 5);
        Check.due("dead in another year: the term as it ended", x.step(0, 4999, 1), 30);
        Check.due("ran as it ended", x.step(0, 4999, 0), 30);
        Check.due("day -1", x.step(0, -1, 0), -10);
        Check.due("day 5000", x.step(0, 5000, 0), -10);
        Check.due("what -1", x.step(0, 0, -1), -10);
        Check.due("what 4", x.step(0, 0, 4), -10);
        Check.due("no such claim", x.step(60, 0, 0), -10);
        Check.due("no such claim", x.step(-1, 0, 0), -10);
        Check.tell(x, 5, "term 3 days from due;");
        x.change(0, 300, 5, false);
        Check.due("the law ahead of done and ahead of the change", x.step(0, 299, 2), 0);
        Check.due("the law ahead of done, behind the change", x.step(0, 300, 2), 5);
        Check.due("its term", x.step(0, 300, 1), 3);
        Check.due("the dead one's law", x.step(0, 4000, 2), 5);
    }

    private static void asked() {
        RanOut x = Check.with("term 50 days from done when ran<10;term 12 days from done;");
        x.claim(0, 0, 0, 0, 0, 0);
        Check.due("the term follows ran", x.last(0), 12);
        Check.due("ran is 9 behind the day before", x.step(0, 10, 1), 50);
        Check.due("ran is 10", x.step(0, 11, 1), 12);
        x = Check.with("term 800 days from done when year<2;term 9 days from done;");
        x.claim(0, 0, 0, 0, 0, 0);
        Check.due("on the first day of year 2", x.last(0), 730);
    }

    private static void spans() {
        RanOut x = Check.with("term 10 days from done;renew ask;stop child;");
        x.claim(0, 0, 0, 0, 0, 0);
        Check.due("sure", x.span(0, 0), 10);
        Check.due("sure", x.span(0, 1), 10);
        Check.due("nothing hangs", x.span(0, 2), 0);
        x.fact(0, 4, 8, 8);
        x.doubt(0, 0, 5);
        Check.due("asked on 11 or later is too late", x.span(0, 0), 10);
        Check.due("asked on 10", x.span(0, 1), 20);
        Check.due("as told", x.last(0), 18);
        x.fact(0, 0, 1, 3);
        Check.due("a child of three days lets it be asked till 13", x.span(0, 0), 18);
        Check.due("asked on 13", x.span(0, 1), 23);
        x.doubt(0, 1, 6);
        Check.due("without the child", x.span(0, 0), 10);
        Check.due("with it", x.span(0, 1), 23);
        Check.due("asked as told, the child matters not", x.span(0, 2), 0);
        x.doubt(0, 0, 6);
        Check.due("either", x.span(0, 0), 10);
        Check.due("both", x.span(0, 1), 18);
        Check.due("the asking matters", x.span(0, 2), 1);
        x.fact(0, 7, 12, 12);
        Check.due("kept if asked or if a child", x.span(0, 1), -2);
        Check.due("else not", x.span(0, 0), 10);
        Check.due("neither alone", x.span(0, 2), 0);
        x.doubt(0, 1, 0);
        x.doubt(0, 2, 6);
        Check.due("the suit matters", x.span(0, 2), 4);
        x.doubt(0, 2, 2);
        Check.due("the suit may be on 14, the asking not", x.span(0, 0), 13);
        x = Check.with("term 10 days from done when ran<5;renew ask;");
        x.claim(0, 0, 0, 0, 0, 0);
        x.fact(0, 7, 2000, 2000);
        x.doubt(0, 0, 6);
        Check.due("none is earlier than kept", x.span(0, 0), -1);
        Check.due("kept", x.span(0, 1), -2);
        Check.due("it matters", x.span(0, 2), 1);
        Check.due("what 3", x.span(0, 3), -10);
        Check.due("what -1", x.span(0, -1), -10);
        Check.due("no such claim", x.span(1, 0), -10);
    }

    private static void changed() {
        RanOut x = Check.with("term 20 days from done;");
        Check.tell(x, 1, "term 30 days from done;");
        Check.tell(x, 2, "stop war;");
        x.claim(0, 0, 0, 0, 0, 0);
        x.claim(0, 0, 0, 10, 10, 10);
        x.claim(0, 0, 0, 20, 20, 20);
        x.claim(1, 0, 0, 20, 20, 20);
        Check.due("no change", x.changed(0, 0), -1);
        Check.due("place -1", x.changed(-1, 0), -1);
        Check.due("place 6", x.changed(6, 0), -1);
        x.change(0, 25, 1, true);
        Check.due("two", x.changed(0, 0), 2);
        Check.due("the first", x.changed(0, 1), 1);
        Check.due("what 2", x.changed(0, 2), -1);
        Check.due("what -1", x.changed(0, -1), -1);
        Check.due("another place", x.changed(1, 0), -1);
        x.change(0, 26, 1, false);
        Check.due("the last change alone counts", x.changed(0, 0), 0);
        Check.due("none is first", x.changed(0, 1), -1);
        x.change(0, 35, 2, true);
        Check.due("two have no end now", x.changed(0, 0), 2);
        x.fact(1, 7, 22, 22);
        Check.due("one is kept anyhow", x.changed(0, 0), 1);
        Check.due("the other one", x.changed(0, 1), 2);
    }
}
