/** Promises 1 to 5, 10 to 12, 17, 18, 25 and 26: what is told, refused, counted, and gone back to. */
public final class BookTest {
    public static void main(String[] args) {
        newObject();
        today();
        holidays();
        places();
        changes();
        claims();
        facts();
        doubts();
        acts();
        wants();
        images();
        looks();
        Check.leave("BookTest");
    }

    private static void newObject() {
        RanOut x = new RanOut();
        for (int what = 0; what <= 7; what++) {
            Check.due("new look(" + what + ")", x.look(what), 0);
        }
        Check.due("new last(0)", x.last(0), -3);
        Check.due("new feed", x.feed(0, 0, 0, 0, 0), 20);
        Check.due("new fault(0)", x.fault(0), 0);
        Check.due("new fault(1)", x.fault(1), -1);
        Check.due("NONE", RanOut.NONE, -1);
    }

    private static void today() {
        RanOut x = new RanOut();
        x.claim(0, 0, 1, 0, 0, 0);
        Check.due("today(2999)", x.today(2999), true);
        Check.due("today(3000)", x.today(3000), false);
        Check.due("today(2998) ahead of what it was", x.today(2998), false);
        Check.due("today(2999) again", x.today(2999), true);
        x = new RanOut();
        x.claim(0, 0, 1, 0, 0, 0);
        x.act(0, 4, 5, 1, 0, -1, -1);
        x.act(1, 4, 6, 1, 0, -1, -1);
        x.today(6);
        Check.due("acts left, that of TODAY still", x.look(7), 1);
        Check.due("look(0)", x.look(0), 6);
        Check.due("today(Integer.MIN_VALUE)", x.today(Integer.MIN_VALUE), false);
        Check.due("today(Integer.MAX_VALUE)", x.today(Integer.MAX_VALUE), false);
    }

    private static void holidays() {
        RanOut x = new RanOut();
        Check.due("holiday(-1)", x.holiday(-1), false);
        Check.due("holiday(5000)", x.holiday(5000), false);
        Check.due("holiday(4999)", x.holiday(4999), true);
        for (int i = 0; i < 19; i++) {
            Check.due("holiday(" + i + ")", x.holiday(i), true);
        }
        Check.due("the 21st", x.holiday(100), false);
        Check.due("one told once more", x.holiday(7), true);
        Check.due("look(2)", x.look(2), 20);
        x = Check.with("term 4 days from done;roll;");
        x.claim(0, 0, 1, 0, 0, 0);
        Check.due("ends on Friday", x.last(0), 4);
        x.holiday(4);
        Check.due("a holiday, then the weekend", x.last(0), 7);
        x.holiday(7);
        Check.due("and another one", x.last(0), 8);
    }

    private static void places() {
        RanOut x = Check.with("term 5 days from done;");
        Check.tell(x, 7, "term 9 days from done;");
        x.claim(5, 0, 1, 0, 0, 0);
        Check.due("place(-1, 0)", x.place(-1, 0), false);
        Check.due("place(6, 0)", x.place(6, 0), false);
        Check.due("place(5, -1)", x.place(5, -1), false);
        Check.due("place(5, 8)", x.place(5, 8), false);
        Check.due("law 0 at first", x.last(0), 5);
        Check.due("place(5, 7)", x.place(5, 7), true);
        Check.due("law 7", x.last(0), 9);
    }

    private static void changes() {
        RanOut x = new RanOut();
        Check.due("change(-1, ..)", x.change(-1, 5, 0, true), false);
        Check.due("change(6, ..)", x.change(6, 5, 0, true), false);
        Check.due("day 0", x.change(2, 0, 0, true), false);
        Check.due("day 3000", x.change(2, 3000, 0, true), false);
        Check.due("law -1", x.change(2, 5, -1, true), false);
        Check.due("law 8", x.change(2, 5, 8, true), false);
        Check.due("day 1", x.change(2, 1, 7, false), true);
        Check.due("the same day", x.change(2, 1, 6, true), false);
        Check.due("day 2", x.change(2, 2, 7, false), true);
        Check.due("day 3", x.change(2, 3, 7, false), true);
        Check.due("day 2999", x.change(2, 2999, 7, false), true);
        Check.due("a fifth", x.change(2, 2999, 7, false), false);
        Check.due("look(22)", x.look(22), 4);
        Check.due("look(21)", x.look(21), 0);
    }

    private static void claims() {
        RanOut x = new RanOut();
        int[][] wrong = {
            {-1, 0, 0, 0, 0, 0}, {6, 0, 0, 0, 0, 0}, {0, -1, 0, 0, 0, 0}, {0, 10, 0, 0, 0, 0}, {0, 0, -1, 0, 0, 0},
            {0, 0, 10000, 0, 0, 0}, {0, 0, 0, -1, 0, 0}, {0, 0, 0, 0, 3000, 0}, {0, 0, 0, 0, 0, 3000},
            {0, 0, 0, 9, 8, 9}, {0, 0, 0, 9, 9, 8}, {0, 0, 0, 3000, 3000, 3000}, {0, 0, 0, 0, -1, 0}, {0, 0, 0, 0, 0, -1}};
        for (int[] w : wrong) {
            Check.due("claim that can't be", x.claim(w[0], w[1], w[2], w[3], w[4], w[5]), -1);
        }
        Check.due("the edges", x.claim(5, 9, 9999, 2999, 2999, 2999), 0);
        for (int i = 1; i < 60; i++) {
            Check.due("claim", x.claim(0, 0, 0, 0, 0, 0), i);
        }
        Check.due("the 61st", x.claim(0, 0, 0, 0, 0, 0), -1);
        Check.due("look(1)", x.look(1), 60);
        Check.due("look(89)", x.look(89), 0);
        Check.due("look(90)", x.look(90), -1);
    }

    private static void facts() {
        RanOut x = new RanOut();
        x.claim(0, 0, 0, 50, 50, 50);
        Check.due("no such claim", x.fact(1, 0, 0, 0), -1);
        Check.due("no such claim", x.fact(-1, 0, 0, 0), -1);
        Check.due("sort -1", x.fact(0, -1, 0, 0), -1);
        Check.due("sort 8", x.fact(0, 8, 0, 0), -1);
        Check.due("to ahead of from", x.fact(0, 3, 5, 4), -1);
        Check.due("from -1", x.fact(0, 3, -1, 4), -1);
        Check.due("to 3000", x.fact(0, 3, 2999, 3000), -1);
        Check.due("an ask of two days", x.fact(0, 4, 5, 6), -1);
        for (int i = 0; i < 12; i++) {
            Check.due("fact", x.fact(0, i % 8, 2999, 2999), i);
        }
        Check.due("the 13th", x.fact(0, 0, 0, 0), -1);
        Check.due("look(30)", x.look(30), 12);
    }

    private static void doubts() {
        RanOut x = new RanOut();
        for (int c = 0; c < 4; c++) {
            x.claim(0, 0, 0, 0, 0, 0);
            for (int f = 0; f < 4; f++) {
                x.fact(c, 4, 5, 5);
            }
        }
        Check.due("no such claim", x.doubt(4, 0, 1), false);
        Check.due("no such claim", x.doubt(-1, 0, 1), false);
        Check.due("no such fact", x.doubt(0, 4, 1), false);
        Check.due("no such fact", x.doubt(0, -1, 1), false);
        Check.due("n -1", x.doubt(0, 0, -1), false);
        Check.due("n 7", x.doubt(0, 0, 7), false);
        Check.due("one in doubt", x.doubt(0, 0, 5), true);
        Check.due("two in doubt", x.doubt(0, 1, 1), true);
        Check.due("a third", x.doubt(0, 2, 1), false);
        Check.due("one of the two by other days", x.doubt(0, 1, 2), true);
        Check.due("two contested beside", x.doubt(0, 2, 6), true);
        Check.due("two contested beside", x.doubt(0, 3, 6), true);
        Check.due("a third contested", x.doubt(0, 1, 6), false);
        Check.due("contested once more", x.doubt(0, 3, 6), true);
        x.doubt(1, 0, 6);
        x.doubt(1, 1, 6);
        x.doubt(2, 0, 6);
        Check.due("the sixth in all", x.doubt(2, 1, 6), true);
        Check.due("the seventh in all", x.doubt(3, 0, 6), false);
        Check.due("one of the six once more", x.doubt(2, 1, 6), true);
        Check.due("one sure again", x.doubt(1, 0, 0), true);
        Check.due("so there is room", x.doubt(3, 0, 6), true);
    }

    private static void acts() {
        RanOut x = new RanOut();
        for (int c = 0; c < 4; c++) {
            x.claim(0, 0, 0, 0, 0, 0);
        }
        x.today(10);
        int[][] wrong = {
            {-1, 4, 10, 0, 0, -1, -1}, {6, 4, 10, 0, 0, -1, -1}, {0, 3, 10, 0, 0, -1, -1}, {0, 8, 10, 0, 0, -1, -1},
            {0, -2, 10, 0, 0, -1, -1}, {0, 4, 9, 0, 0, -1, -1}, {0, 4, 3000, 0, 0, -1, -1}, {0, 4, 10, -1, 0, -1, -1},
            {0, 4, 10, 1000, 0, -1, -1}, {0, 4, 10, 0, 4, -1, -1}, {0, 4, 10, 0, -1, -1, -1}, {0, 4, 10, 0, 0, 4, -1},
            {0, 4, 10, 0, 0, -1, 4}, {0, 4, 10, 0, 0, -2, -1}, {0, 4, 10, 0, 0, 0, -1}, {0, 4, 10, 0, 0, -1, 0},
            {0, 4, 10, 0, 0, 1, 1}, {0, 4, 10, 0, -1, 0, 1}, {-1, -1, 0, 0, 0, 0, 0}, {6, -1, 0, 0, 0, 0, 0}};
        for (int[] w : wrong) {
            Check.due("act that can't be", x.act(w[0], w[1], w[2], w[3], w[4], w[5], w[6]), false);
        }
        Check.due("none told", x.look(7), 0);
        Check.due("one claim", x.act(5, 7, 2999, 999, 3, -1, -1), true);
        Check.due("two claims", x.act(1, 4, 10, 0, 0, 1, -1), true);
        Check.due("two claims, the third told", x.act(2, 4, 10, 0, 0, -1, 1), true);
        Check.due("three claims", x.act(1, 5, 10, 0, 0, 1, 2), true);
        Check.due("three told", x.look(7), 3);
        Check.due("none any more", x.act(1, -1, -5, -5, -5, -5, -5), true);
        Check.due("none any more, twice", x.act(1, -1, 0, 0, 0, 0, 0), true);
        Check.due("two told", x.look(7), 2);
        Check.due("one that can't be changes nothing", x.act(2, 4, 9, 0, 0, -1, -1), false);
        Check.due("two told still", x.look(7), 2);
    }

    private static void wants() {
        RanOut x = new RanOut();
        x.claim(0, 0, 0, 0, 0, 0);
        Check.due("want(-1)", x.want(-1, true), false);
        Check.due("want(1)", x.want(1, true), false);
        Check.due("want(0, true)", x.want(0, true), true);
        Check.due("look(6)", x.look(6), 1);
        Check.due("want(0, false)", x.want(0, false), true);
        Check.due("look(6)", x.look(6), 0);
    }

    private static void images() {
        RanOut x = Check.with("term 20 days from done;renew ask;roll;");
        Check.due("none yet", x.image(false), false);
        x.claim(0, 0, 7, 0, 0, 0);
        x.fact(0, 4, 5, 5);
        x.doubt(0, 0, 6);
        x.want(0, true);
        x.act(0, 4, 20, 3, 0, -1, -1);
        x.holiday(25);
        x.change(0, 900, 0, true);
        Check.feed(x, "roll;");
        Check.due("taken", x.image(true), true);
        for (int again = 0; again < 2; again++) {
            x.today(30);
            x.holiday(28);
            x.place(0, 3);
            x.place(1, 3);
            x.change(0, 901, 1, false);
            x.claim(0, 0, 1, 0, 0, 0);
            x.fact(0, 7, 6, 6);
            x.doubt(0, 0, 0);
            x.want(0, false);
            Check.due("text(0), the tape on which nothing came back", x.text(0), again == 0 ? 1 : 0);
            Check.feed(x, "?");
            x.text(0);
            Check.due("gone back", x.image(false), true);
            Check.due("fault() is not in it", x.fault(0), 1);
            Check.due("today", x.look(0), 0);
            Check.due("claims", x.look(1), 1);
            Check.due("holidays", x.look(2), 1);
            Check.due("wanted", x.look(6), 1);
            Check.due("acts", x.look(7), 1);
            Check.due("lines", x.look(10), 3);
            Check.due("changes", x.look(20), 1);
            Check.due("facts", x.look(30), 1);
            Check.due("last day: 25 is a holiday, Friday", x.last(0), 28);
            Check.due("its contested fact", x.span(0, 2), 1);
        }
        x.claim(0, 0, 1, 0, 0, 0);
        x.image(true);
        x.claim(0, 0, 1, 0, 0, 0);
        x.image(false);
        Check.due("the later image", x.look(1), 2);
    }

    private static void looks() {
        RanOut x = Check.with("term 5 days from done;");
        x.claim(0, 0, 100, 0, 0, 0);
        x.claim(0, 0, 20, 0, 0, 0);
        x.claim(1, 0, 3, 2, 2, 2);
        x.fact(1, 7, 5, 5);
        Check.due("alive at 0", x.look(3), 3);
        Check.due("their sum", x.look(4), 123);
        Check.due("kept on a day behind", x.look(5), 1);
        x.today(5);
        Check.due("alive through the last day", x.look(3), 3);
        x.today(6);
        Check.due("alive at 6", x.look(3), 2);
        Check.due("their sum", x.look(4), 23);
        x.today(8);
        Check.due("alive at 8", x.look(3), 1);
        Check.due("their sum", x.look(4), 20);
        int[] none = {-1, 8, 9, 18, 19, 26, 29, 33, 90, Integer.MIN_VALUE, Integer.MAX_VALUE};
        for (int what : none) {
            Check.due("look(" + what + ")", x.look(what), -1);
        }
    }
}
