/** Promises 6 to 9: the tape, texts as laws, and their faults. */
public final class LawTextTest {
    public static void main(String[] args) {
        tape();
        noSuchLaw();
        lines();
        faults();
        depths();
        conditions();
        Check.leave("LawTextTest");
    }

    private static void tape() {
        RanOut x = new RanOut();
        for (int i = 1; i <= 20; i++) {
            Check.due("feed", x.feed(0, 0, 0, 0, 0), 20 * i);
        }
        Check.due("more than 400", x.feed(0, 0, 0, 0, 0), -1);
        Check.due("end(401)", x.end(401), false);
        Check.due("end(-1)", x.end(-1), false);
        Check.due("end(381)", x.end(381), true);
        Check.due("401 would be more", x.feed(0, 0, 0, 0, 0), -1);
        Check.due("end(382): it has not so many", x.end(382), false);
        Check.due("end(380)", x.end(380), true);
        Check.due("400 is not more", x.feed(0, 0, 0, 0, 0), 400);
        Check.due("end(0)", x.end(0), true);
        Check.due("the highest byte first", x.feed(0x726f6c6c, 0x3b0a2020, 0x20202020, 0x20202020, 0x20202020), 20);
        Check.due("its text", x.text(0), 1);
        Check.due("empty then", x.end(1), false);
    }

    private static void noSuchLaw() {
        int[] noLaws = {-1, 8, Integer.MIN_VALUE, Integer.MAX_VALUE};
        for (int k : noLaws) {
            RanOut x = new RanOut();
            Check.tell(x, 0, "roll");
            Check.feed(x, "roll;");
            Check.due("text(" + k + ")", x.text(k), -1);
            Check.due("no fault of it", x.fault(0), 0);
            Check.due("nor a place", x.fault(1), -1);
            Check.due("the tape is empty then too", x.end(1), false);
            Check.due("what comes is the first again", x.feed(0, 0, 0, 0, 0), 20);
            Check.due("end(0)", x.end(0), true);
            Check.due("nothing is left for a law", x.text(0), 0);
        }
    }

    private static void lines() {
        RanOut x = new RanOut();
        Check.due("text(8)", x.text(8), -1);
        Check.due("text(-1)", x.text(-1), -1);
        Check.due("fault(0)", x.fault(0), 0);
        Check.due("fault(2)", x.fault(2), -1);
        Check.due("fault(-1)", x.fault(-1), -1);
        Check.due("three lines", Check.tell(x, 7, "roll;roll ; term 1months from due;"), 3);
        Check.due("look(17)", x.look(17), 3);
        Check.due("a fault", Check.tell(x, 7, "roll"), -1);
        Check.due("it is 1", x.fault(0), 1);
        Check.due("the law stays", x.look(17), 3);
        Check.due("the tape does not", x.end(1), false);
        Check.due("no such law", x.text(9), -1);
        Check.due("tells no fault", x.fault(0), 0);
        Check.due("nor a place", x.fault(1), -1);
        Check.due("blanks alone", Check.tell(x, 7, " \n "), 0);
        Check.due("sixteen lines", Check.tell(x, 7, "roll;".repeat(16)), 16);
        Check.due("every kind", Check.tell(x, 1, "term 9999 years from known;long 0001 days from done when not kind=1;"
            + "stop abroad when(1=1)and 2>1 or 3<4;renew letter;stop suit;renew talks;roll;"), 7);
    }

    private static void faulty(String text, int kind, int place) {
        RanOut x = new RanOut();
        Check.due("text of " + text, Check.tell(x, 2, text), -1);
        Check.due("fault(0) of " + text, x.fault(0), kind);
        Check.due("fault(1) of " + text, x.fault(1), place);
    }

    private static void faults() {
        faulty("roll", 1, 4);
        faulty("roll  \n", 1, 7);
        faulty("  ;", 1, 2);
        faulty("rolls;", 1, 0);
        faulty("roll;Roll;", 1, 5);
        faulty("termX 5 days from done;", 1, 0);
        faulty("renews ask;", 1, 0);
        faulty("rollz;", 1, 0);
        faulty("rollA;", 1, 0);
        faulty("rollZ;", 1, 0);
        faulty("roll[;", 1, 4);
        faulty("roll{;", 1, 4);
        faulty("term 5: days from done;", 1, 6);
        faulty("term five days from done;", 1, 5);
        faulty("term 5 year from done;", 1, 7);
        faulty("term 5 days from done when year s=1;", 1, 32);
        faulty("term 0000 days from done;", 2, 5);
        faulty("term 00000 days from done;", 1, 5);
        faulty("long 0 nothing", 2, 5);
        faulty("roll when 1=1;", 1, 5);
        faulty("roll\t;", 1, 4);
        faulty("stop war when 1=1 2;", 1, 18);
        faulty("stop war when 1;", 1, 15);
        faulty("stop war when 1=1=1;", 1, 17);
        faulty("stop war when -1=1;", 1, 14);
        faulty("stop war when 1+=1;", 1, 16);
        faulty("stop war when (1+2)=3;", 1, 18);
        faulty("stop war when 1=(2);", 1, 16);
        faulty("stop war when (1=2));", 1, 19);
        faulty("stop war when (1=2)+1=1;", 1, 19);
        faulty("stop war when 1=1 and;", 1, 21);
        faulty("stop war when 1=1 and or 1=1;", 1, 22);
        faulty("stop war when not;", 1, 17);
        faulty("stop war when 1=not 1=1;", 1, 16);
        faulty("stop war when 1/ran=1;", 1, 16);
        faulty("stop war when 1/00=1;", 2, 16);
        faulty("stop war when 7*3/0;", 2, 18);
        faulty("stop war when 1=1/", 1, 18);
        faulty("stop war when 1*/2=1;", 1, 16);
        faulty("stop war when 1=1;? ", 1, 18);
        faulty("stop " + (char) 233 + ";", 1, 5);
        faulty("stop war when kind=done;", 1, 19);
        faulty("roll;".repeat(16) + "term 0 days", 3, 80);
        faulty("roll;".repeat(16) + "when", 1, 80);
        faulty("roll;".repeat(16) + ";", 1, 80);
        faulty("roll;".repeat(15) + "roll", 1, 79);
    }

    private static void depths() {
        RanOut x = new RanOut();
        String open = "stop war when ";
        Check.due("eight brackets", Check.tell(x, 0, open + "((((((((1=1))))))));"), 1);
        Check.due("eight nots", Check.tell(x, 0, open + "not ".repeat(8) + "1=1;"), 1);
        Check.due("four of each", Check.tell(x, 0, open + "not (".repeat(4) + "1=1" + ")".repeat(4) + ";"), 1);
        Check.due("eight, closed, and eight", Check.tell(x, 0, open + "not ".repeat(8) + "1=1 and " + "(".repeat(8) + "1=1" + ")".repeat(8)
            + " or " + "not ".repeat(8) + "1=1;"), 1);
        Check.due("a not in brackets closes with its C", Check.tell(x, 0, open + "((((((not 1=1 and not 1=1 or not(1=1)))))));"), 1);
        faulty(open + "(((((((((1=1)))))))));", 3, 22);
        faulty(open + "not ".repeat(9) + "1=1;", 3, 46);
        faulty(open + "not (".repeat(4) + "not 1=1" + ")".repeat(4) + ";", 3, 34);
        faulty(open + "1=1 or ((((((((1=1 and not 1=1))))))));", 3, 37);
        faulty(open + "not ".repeat(8) + "and", 1, 46);
    }

    /** Whether that condition is so, of a claim at place 3 of kind 4 and sum 50, done on day 400. */
    private static void so(String condition, boolean want) {
        RanOut x = Check.with("term 9 days from done when " + condition + ";term 99 days from done;");
        x.claim(3, 4, 50, 400, 400, 400);
        Check.due(condition, x.step(0, 400, 1) == 9, want);
    }

    private static void conditions() {
        so("kind=4 and sum=50 and place=3 and year=1 and ran=0", true);
        so("kind=5", false);
        so("1=1 or 1=2 and 1=2", true);
        so("(1=1 or 1=2) and 1=2", false);
        so("1=2 and 1=2 or 1=1", true);
        so("not 1=2 and 1=2", false);
        so("not 1=2 or 1=2", true);
        so("not (1=2 and 1=2)", true);
        so("not not 1=1", true);
        so("not 1=1 or not 1=2", true);
        so("2+3*4=14", true);
        so("20-3-4=13", true);
        so("7/2*2=6", true);
        so("7*2/3=4", true);
        so("100/10/3=3", true);
        so("1-8/3=0-1", true);
        so("1-8<0", true);
        so("sum-57/2=22", true);
        so("kind*0-7/2+3=0", true);
        so("1<1", false);
        so("1>1", false);
        so("9999*9999*9999>0", false);
        so("9999*9999*25<0", true);
        so("9999*9999*25/1000+1795*1000+467=0", true);
        so("2*sum>99", true);
        so("sum>kind*10+place*3", true);
    }
}
