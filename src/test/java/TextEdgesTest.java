/** A test for each sentence that names an edge of the TAPE and of texts: the second part of "Terms", promises 6 to 9. */
public final class TextEdgesTest {
    private static final String WHEN = "stop war when ";

    public static void main(String[] args) {
        feeds();
        bytes();
        ends();
        texts();
        faultsOfLatest();
        emptyLaws();
        forms();
        missing();
        slots();
        units();
        words();
        numbers();
        everyByte();
        blanks();
        wraps();
        divisions();
        binding();
        truths();
        endOfText();
        partsByZero();
        termsOfZero();
        seventeenthLine();
        ninthOpen();
        firstByPlace();
        behindFaults();
        behindEnd();
        lawsOnDays();
        years();
        ranOfDayBefore();
        Check.leave("TextEdgesTest");
    }

    private static void faulty(String text, int kind, int place) {
        RanOut x = new RanOut();
        Check.due("text of " + text, Check.tell(x, 2, text), -1);
        Check.due("fault(0) of " + text, x.fault(0), kind);
        Check.due("fault(1) of " + text, x.fault(1), place);
    }

    private static void fine(String text, int lines) {
        RanOut x = new RanOut();
        Check.due("text of " + text, Check.tell(x, 2, text), lines);
        Check.due("fault(0) of " + text, x.fault(0), 0);
        Check.due("fault(1) of " + text, x.fault(1), -1);
    }

    private static void feeds() {
        Check.sentence("feed(): NONE, and nothing comes, if there would be more than 400");
        RanOut x = new RanOut();
        int roll = 0x726f6c6c;
        int semi = 0x3b202020;
        int none = 0x20202020;
        for (int n = 1; n <= 19; n++) {
            Check.due("feed", x.feed(none, none, none, none, none), 20 * n);
        }
        Check.due("400 are not more", x.feed(roll, semi, none, none, none), 400);
        Check.due("420 are", x.feed(roll, semi, none, none, none), -1);
        Check.due("nothing came", x.end(401), false);
        Check.due("the text of 400", x.text(0), 1);
        Check.due("empty then", x.feed(none, none, none, none, none), 20);
        for (int n = 2; n <= 20; n++) {
            x.feed(none, none, none, none, none);
        }
        x.end(381);
        Check.due("401 are more", x.feed(none, none, none, none, none), -1);
        Check.due("nothing came", x.end(382), false);
        x.end(380);
        Check.due("400 are not", x.feed(none, none, none, none, none), 400);
        Check.due("none from a full one", x.feed(0, 0, 0, 0, 0), -1);
        Check.due("it is as it was", x.text(0), 0);
    }

    private static void bytes() {
        Check.sentence("Twenty bytes come behind the TAPE, of each number the highest first: how many it has");
        RanOut x = new RanOut();
        // "term 1 days from don" "e;"
        Check.due("feed", x.feed(0x7465726d, 0x20312064, 0x61797320, 0x66726f6d, 0x20646f6e), 20);
        Check.due("feed", x.feed(0x653bffff, -1, -1, -1, -1), 40);
        Check.due("cut", x.end(22), true);
        Check.due("behind what is left", x.feed(0x20202020, 0x20202020, 0x20202020, 0x20202020, 0x20202020), 42);
        Check.due("text", x.text(0), 1);
        String text = "?";
        for (int place = 0; place < 20; place++) {
            faulty(" ".repeat(place) + text, 1, place);
        }
        x.feed(-1, -1, -1, -1, -1);
        Check.due("a byte of 255 is no sign", x.text(0), -1);
        Check.due("at the first", x.fault(1), 0);
        x.feed(0x20202020, 0x20202080, 0x20202020, 0x20202020, 0x20202020);
        Check.due("a byte of 128 is no sign", x.text(0), -1);
        Check.due("at its place", x.fault(1), 7);
    }

    private static void ends() {
        Check.sentence("end(): The TAPE has its first n bytes alone: true; false, changing nothing, if it has not so many, or n is below 0");
        RanOut x = new RanOut();
        Check.due("none of none", x.end(0), true);
        Check.due("one of none", x.end(1), false);
        Check.feed(x, "roll;roll;");
        Check.due("as many as it has", x.end(10), true);
        Check.due("one more", x.end(11), false);
        Check.due("-1", x.end(-1), false);
        Check.due("nothing changed", x.end(10), true);
        Check.due("its first five", x.end(5), true);
        Check.due("the rest is gone", x.end(6), false);
        Check.due("one line", x.text(0), 1);
        Check.feed(x, "roll;");
        Check.due("none", x.end(0), true);
        Check.due("no line", x.text(0), 0);
    }

    private static void texts() {
        Check.sentence("The TAPE, empty then, is LAW k: how many lines");
        RanOut x = new RanOut();
        for (int k = 0; k < 8; k++) {
            Check.due("text(" + k + ")", Check.tell(x, k, "roll;".repeat(16 - k)), 16 - k);
            Check.due("the TAPE is empty", x.end(1), false);
        }
        for (int k = 0; k < 8; k++) {
            Check.due("LAW " + k, x.look(10 + k), 16 - k);
        }
        Check.sentence("NONE: no such one (fault() tells 0)");
        int[] others = {Integer.MIN_VALUE, -1, 8, Integer.MAX_VALUE};
        for (int k : others) {
            Check.tell(x, 0, "?");
            Check.due("text(" + k + ")", Check.tell(x, k, "?"), -1);
            Check.due("fault(0)", x.fault(0), 0);
            Check.due("fault(1)", x.fault(1), -1);
            Check.due("the TAPE is empty", x.end(1), false);
        }
        for (int k = 0; k < 8; k++) {
            Check.due("LAW " + k + " is as it was", x.look(10 + k), 16 - k);
        }
        Check.sentence("NONE: .. a FAULT (it stays as it was)");
        x = Check.with("term 5 days from done;");
        x.claim(0, 0, 0, 0, 0, 0);
        Check.due("a FAULT behind whole lines", Check.tell(x, 0, "term 9 days from done;roll;?"), -1);
        Check.due("one line still", x.look(10), 1);
        Check.due("the old one", x.last(0), 5);
        Check.due("the TAPE is empty", x.end(1), false);
        Check.due("what comes is read alone", Check.tell(x, 0, "term 7 days from done;"), 1);
        Check.due("the new one", x.last(0), 7);
    }

    private static void faultsOfLatest() {
        Check.sentence("Of the latest text(): what 0 the FAULT (0 without one), 1 its place (NONE). NONE for another what");
        RanOut x = new RanOut();
        Check.due("without a text", x.fault(0), 0);
        Check.due("without a text", x.fault(1), -1);
        Check.tell(x, 0, "roll;term 0");
        Check.due("2", x.fault(0), 2);
        Check.due("its place", x.fault(1), 10);
        x.claim(0, 0, 0, 0, 0, 0);
        x.last(0);
        Check.feed(x, "roll;");
        Check.due("until the next", x.fault(0), 2);
        Check.due("until the next", x.fault(1), 10);
        Check.due("another what", x.fault(2), -1);
        Check.due("another what", x.fault(-1), -1);
        x.text(0);
        Check.due("none", x.fault(0), 0);
        Check.due("none", x.fault(1), -1);
        Check.tell(x, 0, "?");
        Check.due("at 0", x.fault(1), 0);
        x.text(8);
        Check.due("no such LAW", x.fault(0), 0);
        Check.due("no such LAW", x.fault(1), -1);
    }

    private static void emptyLaws() {
        Check.sentence("LAWS 0 .. 7 are TEXTS (empty at first) = { .. ;}");
        RanOut x = Check.with("term 5 days from done;");
        x.claim(0, 0, 0, 0, 0, 0);
        Check.due("by its line", x.last(0), 5);
        Check.due("a text of nothing", x.text(0), 0);
        Check.due("no line", x.look(10), 0);
        Check.due("no TERM", x.step(0, 3, 1), -1);
        Check.due("no LAST DAY", x.last(0), -1);
        fine("", 0);
        fine(" ", 0);
        fine("\n", 0);
        fine(" ".repeat(400), 0);
        faulty(";", 1, 0);
        faulty("roll;;", 1, 5);
    }

    private static void forms() {
        Check.sentence("(term N U from F [when B] | long N U from F [when B] | stop S [when B] | renew S [when B] | roll) ;");
        String[] sorts = {"child", "abroad", "war", "talks", "ask", "pay", "letter", "suit"};
        for (String sort : sorts) {
            fine("stop " + sort + ";renew " + sort + ";stop " + sort + " when 1=1;renew " + sort + " when 1=1;", 4);
        }
        String[] units = {"days", "months", "years"};
        String[] starts = {"done", "known", "due"};
        for (String u : units) {
            for (String f : starts) {
                fine("term 1 " + u + " from " + f + ";long 1 " + u + " from " + f + ";", 2);
                fine("term 1 " + u + " from " + f + " when ran<1;long 1 " + u + " from " + f + " when ran<1;", 2);
            }
        }
        String[] quantities = {"0", "9999", "kind", "sum", "place", "year", "ran"};
        for (String q : quantities) {
            fine(WHEN + q + "<" + q + ";", 1);
            fine(WHEN + q + "+" + q + "-" + q + "*" + q + "/1=" + q + "/2*" + q + ";", 1);
        }
        faulty("roll when 1=1;", 1, 5);
        faulty("roll 1;", 1, 5);
        faulty("when 1=1;", 1, 0);
        faulty("child;", 1, 0);
        faulty("7;", 1, 0);
    }

    private static void missing() {
        Check.sentence("1 what can't stand there");
        faulty("term days from done;", 1, 5);
        faulty("term kind days from done;", 1, 5);
        faulty("term 1 from done;", 1, 7);
        faulty("term 1 done from done;", 1, 7);
        faulty("term 1 days done;", 1, 12);
        faulty("term 1 days from;", 1, 16);
        faulty("term 1 days from war;", 1, 17);
        faulty("term 1 days from done 1=1;", 1, 22);
        faulty("term 1 days from done when;", 1, 26);
        faulty("term -1 days from done;", 1, 5);
        faulty("term 1+1 days from done;", 1, 6);
        faulty("long 1 days from done when ;", 1, 27);
        faulty("long child;", 1, 5);
        faulty("stop;", 1, 4);
        faulty("stop done;", 1, 5);
        faulty("stop war ask;", 1, 9);
        faulty("stop war or ask;", 1, 9);
        faulty("renew 5;", 1, 6);
        faulty("renew roll;", 1, 6);
        faulty("stop war when when 1=1;", 1, 14);
        faulty(WHEN + ";", 1, 14);
        faulty(WHEN + "1=1 when 1=1;", 1, 18);
        faulty(WHEN + "1;", 1, 15);
        faulty(WHEN + "1=;", 1, 16);
        faulty(WHEN + "=1;", 1, 14);
        faulty(WHEN + "1<=1;", 1, 16);
        faulty(WHEN + "1<1<1;", 1, 17);
        faulty(WHEN + "1=1 1=1;", 1, 18);
        faulty(WHEN + "1=1 and;", 1, 21);
        faulty(WHEN + "1=1 or and 1=1;", 1, 21);
        faulty(WHEN + "and 1=1;", 1, 14);
        faulty(WHEN + "1 and 1=1;", 1, 16);
        faulty(WHEN + "not;", 1, 17);
        faulty(WHEN + "not 1;", 1, 19);
        faulty(WHEN + "1 not =1;", 1, 16);
        faulty(WHEN + "1=1 not 1=1;", 1, 18);
        faulty(WHEN + "();", 1, 15);
        faulty(WHEN + "(1);", 1, 16);
        faulty(WHEN + "(1=1;", 1, 18);
        faulty(WHEN + "1=1);", 1, 17);
        faulty(WHEN + "(1=1));", 1, 19);
        faulty(WHEN + "(1=1)=1;", 1, 19);
        faulty(WHEN + "(1=1)+1=1;", 1, 19);
        faulty(WHEN + "(1=1)(1=1);", 1, 19);
        faulty(WHEN + "(1=1) 1;", 1, 20);
        faulty(WHEN + "1=(1);", 1, 16);
        faulty(WHEN + "1+(1)=1;", 1, 16);
        faulty(WHEN + "1+not 1=1;", 1, 16);
        faulty(WHEN + "1++1=1;", 1, 16);
        faulty(WHEN + "1*+1=1;", 1, 16);
        faulty(WHEN + "1/kind=1;", 1, 16);
        faulty(WHEN + "1/ran=1;", 1, 16);
        faulty(WHEN + "1/(2)=1;", 1, 16);
        faulty(WHEN + "1=1+;", 1, 18);
        faulty(WHEN + "1=1*;", 1, 18);
        faulty(WHEN + "1=1/;", 1, 18);
        faulty(WHEN + "war=1;", 1, 14);
        faulty(WHEN + "1=days;", 1, 16);
        faulty(WHEN + "1=1,2=2;", 1, 17);
    }

    /** Every word, number and sign at every place of a text: what the grammar tells is fine, all else is FAULT 1 there. */
    private static void slots() {
        Check.sentence("1 what can't stand there: every token at every place");
        String lines = " term long stop renew roll ";
        String sorts = " child abroad war talks ask pay letter suit ";
        String quantities = " 7 kind sum place year ran ";
        slot("", lines);
        slot("roll ; ", lines);
        slot("roll ", " ; ");
        slot("term ", " 7 ");
        slot("long ", " 7 ");
        slot("term 5 ", " days months years ");
        slot("long 5 days ", " from ");
        slot("term 5 days from ", " done known due ");
        slot("term 5 days from done ", " when ; ");
        slot("long 5 days from due ", " when ; ");
        slot("stop ", sorts);
        slot("renew ", sorts);
        slot("stop war ", " when ; ");
        slot("renew suit ", " when ; ");
        String[] conditions = {"", "not ", "( ", "1 = 1 and ", "1 = 1 or ", "( 1 = 1 ) and ", "not not ( "};
        for (String c : conditions) {
            slot(WHEN + c, quantities + "not ( ");
            slot(WHEN + c + "1 ", " + - * / < = > ");
            slot(WHEN + c + "kind ", " + - * / < = > ");
            slot(WHEN + c + "1 + ", quantities);
            slot(WHEN + c + "1 - ", quantities);
            slot(WHEN + c + "1 * ", quantities);
            slot(WHEN + c + "1 / ", " 7 ");
            slot(WHEN + c + "1 / 2 ", " + - * / < = > ");
            slot(WHEN + c + "1 < ", quantities);
            slot(WHEN + c + "1 = ", quantities);
            slot(WHEN + c + "1 > ", quantities);
            boolean open = c.contains("( ") && !c.contains(")");
            slot(WHEN + c + "1 = 1 ", " + - * / and or " + (open ? ") " : "; "));
            slot(WHEN + c + "1 = 1 / 2 ", " + - * / and or " + (open ? ") " : "; "));
            slot(WHEN + c + "( 1 = 1 ) ", " and or " + (open ? ") " : "; "));
        }
    }

    /** Of all tokens those of the list alone may stand behind the text; the end may not, but behind a whole line. */
    private static void slot(String ahead, String may) {
        String[] all = ("term long stop renew roll from when days months years done known due child abroad war talks ask pay letter suit "
            + "or and not kind sum place year ran 7 ; + - * / ( ) < = > : terms 12345 ?").split(" ");
        for (String token : all) {
            RanOut x = new RanOut();
            // What may stand there lets the reading go on to the sign behind it, which can never stand.
            Check.tell(x, 0, ahead + token + " ?");
            int place = may.contains(" " + token + " ") ? ahead.length() + token.length() + 1 : ahead.length();
            Check.due("fault(0) of " + ahead + token + " ?", x.fault(0), 1);
            Check.due("fault(1) of " + ahead + token + " ?", x.fault(1), place);
        }
    }

    private static void units() {
        Check.sentence("U = days | months | years (1, 30, 365 days)");
        int[] days = {1, 30, 365};
        String[] units = {"days", "months", "years"};
        for (int u = 0; u < 3; u++) {
            RanOut x = Check.with("term 2 " + units[u] + " from done;");
            Check.tell(x, 1, "long 3 " + units[u] + " from done;");
            x.place(1, 1);
            x.claim(0, 0, 0, 0, 0, 0);
            x.claim(1, 0, 0, 0, 0, 0);
            Check.due("2 " + units[u], x.step(0, 0, 1), 2 * days[u]);
            Check.due("term", x.last(0), 2 * days[u]);
            Check.due("long", x.last(1), 3 * days[u]);
        }
        RanOut x = Check.with("term 9999 years from due;");
        x.claim(0, 0, 0, 2999, 2999, 2999);
        Check.due("the longest TERM", x.step(0, 4999, 1), 9999 * 365);
        Check.due("has no end", x.last(0), -1);
        Check.tell(x, 0, "long 9999 years from due;");
        Check.due("nor the longest end", x.last(0), -1);
    }

    private static void words() {
        Check.sentence("letters as many as stand together are KEYWORDS (those told here) or none");
        faulty("rolls;", 1, 0);
        faulty("rol;", 1, 0);
        faulty("rollroll;", 1, 0);
        faulty("rollterm 1 days from done;", 1, 0);
        faulty("Roll;", 1, 0);
        faulty("ROLL;", 1, 0);
        faulty("r oll;", 1, 0);
        faulty("term1 daysfrom done;", 1, 6);
        faulty("term 1 day from done;", 1, 7);
        faulty("term 1 month from done;", 1, 7);
        faulty("term 1 monthss from done;", 1, 7);
        faulty("stop lettersuit;", 1, 5);
        faulty("stop abroadwar;", 1, 5);
        faulty("stop wars;", 1, 5);
        faulty("stop w;", 1, 5);
        faulty(WHEN + "notkind=1;", 1, 14);
        faulty(WHEN + "kindand=1;", 1, 14);
        faulty(WHEN + "1=1 AND 1=1;", 1, 18);
        faulty("a" + "b".repeat(300) + ";", 1, 0);
        fine("term1days from done;", 1);
        fine("term 1days from done when kind=1;", 1);
        fine("stop war when not(kind=1)and(sum=2)or not 3=ran;", 1);
        fine("stop war when kind=1and 2=sum or 3>year and place<4;", 1);
    }

    private static void numbers() {
        Check.sentence("digits as many as stand together NUMBERS of 1 to 4 digits or none");
        fine("term 1 days from done;", 1);
        fine("term 9999 days from done;", 1);
        fine("term 0001 days from done;", 1);
        faulty("term 10000 days from done;", 1, 5);
        faulty("term 00001 days from done;", 1, 5);
        faulty("term " + "1".repeat(390), 1, 5);
        faulty("term 1 1 days from done;", 1, 7);
        fine(WHEN + "9999=0000;", 1);
        faulty(WHEN + "10000=1;", 1, 14);
        faulty(WHEN + "1=12345;", 1, 16);
        faulty(WHEN + "1/12345=1;", 1, 16);
        RanOut x = Check.with("term 0012 days from done;");
        x.claim(0, 0, 0, 0, 0, 0);
        Check.due("0012 is 12", x.last(0), 12);
        Check.tell(x, 0, "term 1230 days from done;");
        Check.due("1230", x.last(0), 1230);
        Check.tell(x, 0, "term 4567 days from done;");
        Check.due("4567", x.last(0), 4567);
        Check.tell(x, 0, "term 89 days from done;");
        Check.due("89", x.last(0), 89);
    }

    private static void everyByte() {
        Check.sentence("; + - * / ( ) < = > . Blanks (32, 10) between");
        for (int b = 0; b < 256; b++) {
            boolean letter = b >= 'a' && b <= 'z' || b >= 'A' && b <= 'Z';
            String text = "roll" + (char) b + ";";
            if (b == ' ' || b == '\n') {
                fine(text, 1);
            } else {
                faulty(text, 1, letter ? 0 : b == ';' ? 5 : 4);
            }
            boolean digit = b >= '0' && b <= '9';
            text = WHEN + "1" + (char) b + "1=1;";
            if (digit || b == '+' || b == '-' || b == '*' || b == '/') {
                fine(text, 1);
            } else if (b == '<' || b == '=' || b == '>') {
                faulty(text, 1, 17);
            } else {
                faulty(text, 1, b == ' ' || b == '\n' ? 16 : 15);
            }
        }
    }

    private static void blanks() {
        Check.sentence("Blanks (32, 10) between");
        fine("  \n term\n\n1  days from\ndone when 1 = 1 ; \n", 1);
        fine("term 1 days from done when(1=1);", 1);
        fine("\nroll\n;\nroll\n;\n", 2);
        fine("roll;" + " ".repeat(395), 1);
        fine(" ".repeat(395) + "roll;", 1);
        faulty("term 1 0 days from done;", 1, 7);
        faulty(WHEN + "1 0=1;", 1, 16);
        faulty("te rm 1 days from done;", 1, 0);
        faulty("roll\r;", 1, 4);
        faulty("roll;\t", 1, 5);
        faulty("roll;" + (char) 0, 1, 5);
        faulty("roll;" + (char) 160, 1, 5);
    }

    /** Whether that condition is so, of a claim at place 5 of kind 9 and sum 9999, done on day 730. */
    private static void so(String condition, boolean want) {
        RanOut x = Check.with("term 9 days from done when " + condition + ";term 99 days from done;");
        x.claim(5, 9, 9999, 730, 730, 730);
        Check.due(condition, x.step(0, 730, 1) == 9, want);
    }

    private static void wraps() {
        Check.sentence("Ints, which wrap");
        // 65536 * 32768 is 2147483648: one above the greatest.
        so("256*256*256*128<0", true);
        so("256*256*256*128-1>0", true);
        so("256*256*256*127+256*256*256-1>0", true);
        so("256*256*256*127+256*256*256<0", true);
        so("0-256*256*256*128<0", true);
        so("0-256*256*256*128-1>0", true);
        so("256*256*256*256=0", true);
        so("256*256*256*257=256*256*256", true);
        // 9999 to the third is 999700029999, and wrapped -1027349969.
        so("9999*9999*9999+1027*1000*1000+349*1000+969=0", true);
        so("sum*sum*sum+1027*1000*1000+349*1000+969=0", true);
        so("256*256*256*128/2<0", true);
    }

    private static void divisions() {
        Check.sentence("/ goes towards 0");
        so("7/2=3", true);
        so("0*1-7=0-7", true);
        so("kind-16=0-7", true);
        so("0-7/2=0-3", true);
        // A product that is below 0 by wrapping, taken in parts: -2147483648 / 3 is -715827882.67.
        so("256*256*256*128/3+7158*1000*100+2788*10+3=0", false);
        so("256*256*256*128/3+7158*1000*100+2788*10+2=0", true);
        so("256*256*256*128/9999<0", true);
        so("256*256*256*255/9999=0-1677", true);
        so("256*256*256*255/8388/2000=0-1", true);
        so("256*256*256*255/8389/2000=0", true);
        so("1/2=0", true);
        so("9999/9999=1", true);
        so("9998/9999=0", true);
        so("7/1=7", true);
    }

    private static void binding() {
        Check.sentence("B = A {or A}. A = C {and C}. E = T {(+ | -) T}. T = Q {* Q | / NUMBER}");
        so("10-2-3=5", true);
        so("10-2+3=11", true);
        so("100/5*2=40", true);
        so("100*2/5=40", true);
        so("100/7/2=7", true);
        so("2+3*4-5=9", true);
        so("2*3+4*5=26", true);
        so("1=2-1", true);
        so("5-4=2-1", true);
        so("1=1 or 1=1 and 1=2", true);
        so("1=2 and 1=1 or 1=1", true);
        so("1=2 and (1=1 or 1=1)", false);
        so("1=2 or 1=2 or 1=1", true);
        so("1=1 and 1=1 and 1=2", false);
        so("not 1=2 and 1=2", false);
        so("not 1=1 or 1=1", true);
        so("not (1=1 or 1=1)", false);
        so("not not not 1=2", true);
        so("not (not (1=2))", false);
        so("1<2", true);
        so("2<2", false);
        so("2<1", false);
        so("2=2", true);
        so("2>2", false);
        so("2>1", true);
        so("1>2", false);
        so("0-1<0", true);
        so("kind=9 and sum=9999 and place=5 and year=2 and ran=0", true);
    }

    private static void truths() {
        Check.sentence("C = E (< | = | >) E | not C | ( B ), under and, or and not");
        String[] so = {"1<2", "2=2", "2>1", "not 1=2", "(1=1)", "1=1 and 2=2", "1=2 or 2=2"};
        String[] not = {"2<1", "1=2", "1>2", "not 1=1", "(1=2)", "1=1 and 1=2", "1=2 or 2=1"};
        for (int i = 0; i < so.length; i++) {
            so(so[i], true);
            so(not[i], false);
            so("not (" + so[i] + ")", false);
            so("not (" + not[i] + ")", true);
            for (int j = 0; j < so.length; j++) {
                so("(" + so[i] + ") and (" + so[j] + ")", true);
                so("(" + so[i] + ") and (" + not[j] + ")", false);
                so("(" + not[i] + ") and (" + so[j] + ")", false);
                so("(" + not[i] + ") and (" + not[j] + ")", false);
                so("(" + so[i] + ") or (" + so[j] + ")", true);
                so("(" + so[i] + ") or (" + not[j] + ")", true);
                so("(" + not[i] + ") or (" + so[j] + ")", true);
                so("(" + not[i] + ") or (" + not[j] + ")", false);
            }
        }
    }

    private static void endOfText() {
        Check.sentence("1 what can't stand there (the end: the text's length)");
        String whole = "term 1 days from done when not(kind+1*2/3<4)and 5=6 or 7>ran;";
        for (int n = 1; n < whole.length(); n++) {
            String cut = whole.substring(0, n);
            // Words and numbers that are cut are still those of their first letters, or no words at all.
            int from = n;
            while (from > 0 && Character.isLetter(cut.charAt(from - 1))) {
                from--;
            }
            boolean half = from < n && Character.isLetter(whole.charAt(n)) || cut.endsWith(" o");
            faulty(cut, 1, half ? from : n);
            faulty(cut + "  \n", 1, half ? from : n + 3);
        }
        fine(whole, 1);
        faulty("roll" + " ".repeat(396), 1, 400);
        faulty(" ".repeat(396) + "roll", 1, 400);
        faulty("roll;roll", 1, 9);
    }

    private static void partsByZero() {
        Check.sentence("2 (at the NUMBER) a part by 0");
        faulty(WHEN + "1/0=1;", 2, 16);
        faulty(WHEN + "1 / 0000 = 1;", 2, 18);
        faulty(WHEN + "1=kind*2/0;", 2, 23);
        faulty(WHEN + "1/1/0=1;", 2, 18);
        faulty(WHEN + "(not 1/0=1);", 2, 21);
        faulty("term 1 days from done when 1/0", 2, 29);
        faulty(WHEN + "1/00000=1;", 1, 16);
        fine(WHEN + "0/1=0;", 1);
        fine(WHEN + "1/0001=0*0;", 1);
    }

    private static void termsOfZero() {
        Check.sentence("2 (at the NUMBER) .. N of term or long that is 0");
        faulty("term 0 days from done;", 2, 5);
        faulty("long 0 days from done;", 2, 5);
        faulty("roll; term  0000 years", 2, 12);
        faulty("long\n00?", 2, 5);
        faulty("term 00000 days from done;", 1, 5);
        fine("term 0001 days from done;long 0010 months from due;", 2);
    }

    private static void seventeenthLine() {
        Check.sentence("3 (at its KEYWORD) the 17th line");
        String sixteen = "roll;".repeat(16);
        fine(sixteen, 16);
        fine(sixteen + " \n ", 16);
        String[] lines = {"term 1 days from done;", "long 1 days from done;", "stop war;", "renew ask;", "roll;", "term", "long 0", "stop ?", "renew ;", "roll"};
        for (String line : lines) {
            faulty(sixteen + line, 3, 80);
            faulty(sixteen + "\n  " + line, 3, 83);
        }
        Check.sentence("at one place the least: 1 at the 17th line too");
        faulty(sixteen + "x", 1, 80);
        faulty(sixteen + ";", 1, 80);
        faulty(sixteen + "rolls;", 1, 80);
        faulty(sixteen + "when 1=1;", 1, 80);
        faulty("roll;".repeat(15) + "term 0 days;roll;", 2, 80);
        faulty("roll;".repeat(17) + "?", 3, 80);
        String sixteenStops = "stop war when 1=1;".repeat(16);
        fine(sixteenStops, 16);
        faulty(sixteenStops + "stop war when 1/0=1;", 3, 288);
    }

    private static void ninthOpen() {
        Check.sentence("3 (at it) the 9th ( or not that is open");
        for (int brackets = 0; brackets <= 9; brackets++) {
            String opened = "(".repeat(brackets) + "not ".repeat(8 - Math.min(8, brackets));
            String closed = ")".repeat(brackets);
            if (brackets <= 8) {
                fine(WHEN + opened + "1=1" + closed + ";", 1);
                faulty(WHEN + opened + "not 1=1" + closed + ";", 3, 14 + opened.length());
                faulty(WHEN + opened + "(1=1)" + closed + ";", 3, 14 + opened.length());
            } else {
                faulty(WHEN + opened + "1=1" + closed + ";", 3, 22);
            }
        }
        String eight = "(((((((" + "(1=1)";
        fine(WHEN + eight + "and(1=1)or not 1=1 and(2=2)" + ")))))));", 1);
        fine(WHEN + "not ".repeat(7) + "(1=1 and 2=2);", 1);
        faulty(WHEN + "not ".repeat(7) + "(1=1 and not 2=2);", 3, 51);
        fine(WHEN + "not (not (1=1)) and not (not (not (not 1=1))) or not not not not not not not not 1=1;", 1);
        Check.sentence("at one place the least: 1 at the 9th too");
        faulty(WHEN + "((((((((and", 1, 22);
        faulty(WHEN + "((((((((1=(", 1, 24);
        faulty(WHEN + "((((((((1=1(", 1, 25);
        faulty(WHEN + "((((((((1=1not", 1, 25);
        faulty(WHEN + "((((((((1=1)))))))))", 1, 33);
        fine(WHEN + eight + ")))))));" + WHEN + eight + ")))))));", 2);
    }

    private static void firstByPlace() {
        Check.sentence("FAULTS, the first by its place");
        faulty("? term 0 days", 1, 0);
        faulty("term 0 ?", 2, 5);
        faulty("term 0 days from done;?", 2, 5);
        faulty("term 1 ? term 0", 1, 7);
        faulty(WHEN + "1/0=1 and (((((((((", 2, 16);
        faulty(WHEN + "(((((((((1/0", 3, 22);
        faulty("term 0 days from done;" + "roll;".repeat(17), 2, 5);
        faulty("roll;".repeat(17) + "term 0", 3, 80);
        faulty("stop 0;term 0 days", 1, 5);
        faulty("term 12345 term 0", 1, 5);
    }

    private static void behindFaults() {
        Check.sentence("a FAULT leaves nothing behind: the next text is read as if it was the first");
        String[] spoiled = {"((((((((?", "not not not not not not not not ?", "1=1 or 1=1 and not (1=1 or 1=1 and 1+2*?", "(((1=1?", "(((((((((", "1/0", "1=1 or ?", "12345"};
        for (String s : spoiled) {
            RanOut x = new RanOut();
            x.claim(0, 0, 0, 0, 0, 0);
            Check.due("spoiled", Check.tell(x, 0, "roll;" + WHEN + s), -1);
            Check.due("eight open", Check.tell(x, 0, "term 9 days from done when not(not(not(not(1=2))));"), 1);
            Check.due("no roll is left", x.last(0), -1);
            Check.tell(x, 0, WHEN + s);
            Check.due("a plain one", Check.tell(x, 0, "term 9 days from done when 1=1;"), 1);
            Check.due("is so", x.last(0), 9);
            Check.tell(x, 0, WHEN + s);
            Check.due("one that is not so", Check.tell(x, 0, "term 9 days from done when 1=2;"), 1);
            Check.due("is not so", x.last(0), -1);
            Check.tell(x, 0, WHEN + s);
            Check.due("a bracket too many", Check.tell(x, 0, WHEN + "1=1);"), -1);
            Check.due("is one", x.fault(1), 17);
            Check.tell(x, 0, WHEN + s);
            Check.due("sixteen lines", Check.tell(x, 0, "roll;".repeat(16)), 16);
        }
    }

    private static void behindEnd() {
        Check.sentence("The TAPE has its first n bytes alone: what stood behind them is not read");
        RanOut x = new RanOut();
        Check.feed(x, "term 12345");
        x.end(9);
        x.text(0);
        Check.due("a number of four digits, then the end", x.fault(1), 9);
        Check.feed(x, "rolls");
        x.end(4);
        x.text(0);
        Check.due("a word, then the end", x.fault(1), 4);
        Check.feed(x, "roll;?");
        x.end(5);
        Check.due("a line, then the end", x.text(0), 1);
        Check.feed(x, "roll;roll;roll;");
        x.text(0);
        Check.due("nothing is left of a longer text", Check.tell(x, 0, "roll;"), 1);
    }

    private static void lawsOnDays() {
        Check.sentence("THE LAW of a claim on a day d: that of its PLACE by the CHANGES up to d");
        RanOut x = Check.with("term 100 days from done;");
        Check.tell(x, 1, "term 5 days from done;");
        x.claim(2, 0, 0, 0, 0, 0);
        x.change(2, 50, 1, true);
        Check.due("a day ahead", x.step(0, 49, 1), 100);
        Check.due("on the day", x.step(0, 50, 1), 5);
        Check.due("and it ends on it", x.last(0), 50);
        Check.due("another PLACE not", x.claim(1, 0, 0, 0, 0, 0), 1);
        Check.due("another PLACE not", x.last(1), 100);
    }

    private static void years() {
        Check.sentence("year (d by 365, downwards)");
        RanOut x = Check.with("term 1000 days from due when year=0;term 2000 days from due when year=1;term 3000 days from due when year=13;");
        x.claim(0, 0, 0, 0, 0, 2999);
        int[][] due = {{0, 1000}, {364, 1000}, {365, 2000}, {729, 2000}, {730, -1}, {4744, -1}, {4745, 3000}, {4999, 3000}};
        for (int[] d : due) {
            Check.due("TERM on " + d[0], x.step(0, d[0], 1), d[1]);
        }
    }

    private static void ranOfDayBefore() {
        Check.sentence("ran (days that ran as it was behind the day before)");
        RanOut x = Check.with("term 50 days from done when ran<3;term 60 days from done;renew ask when ran=6;stop pay when ran=7;");
        x.claim(0, 0, 0, 0, 0, 0);
        Check.due("behind day 2 it is 2", x.step(0, 3, 1), 50);
        Check.due("though behind day 3 it is 3", x.step(0, 3, 0), 3);
        Check.due("on day 4", x.step(0, 4, 1), 60);
        x.fact(0, 4, 6, 6);
        Check.due("on day 6 it is 5", x.step(0, 6, 3), 1);
        x.fact(0, 5, 7, 7);
        Check.due("on day 7 it is 6", x.step(0, 7, 3), 1);
        x.fact(0, 5, 8, 8);
        Check.due("on day 8 it is 7", x.step(0, 8, 3), 2);
        x.fact(0, 4, 7, 7);
        Check.due("renewed on day 7", x.step(0, 7, 3), 3);
        Check.due("on day 8 it is 0", x.step(0, 8, 1), 50);
        x = Check.with("long 5 days from done when ran=5;");
        x.claim(0, 0, 0, 0, 0, 0);
        Check.due("without a TERM nothing runs", x.last(0), -1);
        Check.tell(x, 0, "long 5 days from done when ran=5;term 90 days from done;");
        Check.due("it is 5 on day 6", x.last(0), 6);
    }
}
