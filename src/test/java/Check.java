/** Counts answers that are not due, and puts texts on a tape. */
final class Check {
    private static int wrong = 0;
    private static String sentence = "";

    private Check() {
    }

    /** The sentence of the document that the answers from here on hold; told with each wrong one. */
    static void sentence(String words) {
        sentence = words;
    }

    static void due(String call, int got, int want) {
        if (got != want) {
            wrong++;
            String of = sentence.isEmpty() ? "" : " [" + sentence + "]";
            System.out.println(call + " answered " + got + ", due is " + want + of);
        }
    }

    static void due(String call, boolean got, boolean want) {
        due(call, got ? 1 : 0, want ? 1 : 0);
    }

    static void leave(String name) {
        System.out.println(name + (wrong == 0 ? ": all answers are as due" : ": " + wrong + " answers are not as due"));
        System.exit(wrong == 0 ? 0 : 1);
    }

    /** Feeds the text, cut to its length. */
    static void feed(RanOut x, String text) {
        for (int i = 0; i < text.length(); i += 20) {
            int[] n = new int[5];
            for (int j = 0; j < 20; j++) {
                int sign = i + j < text.length() ? text.charAt(i + j) & 255 : ' ';
                n[j / 4] = n[j / 4] << 8 | sign;
            }
            x.feed(n[0], n[1], n[2], n[3], n[4]);
        }
        x.end(text.length());
    }

    static int tell(RanOut x, int law, String text) {
        feed(x, text);
        return x.text(law);
    }

    /** An object whose law 0 is that text. */
    static RanOut with(String text) {
        RanOut x = new RanOut();
        if (tell(x, 0, text) == RanOut.NONE) {
            due("text of " + text + ", fault at " + x.fault(1), x.fault(0), 0);
        }
        return x;
    }

    /**
     * A refused call changes nothing: what it was made on must tell all that its twin, made alike
     * but without that call, tells. Some 200 calls on each.
     */
    static void alike(String call, RanOut x, RanOut twin) {
        for (int what = 0; what < 90; what++) {
            due("look(" + what + ") behind " + call, x.look(what), twin.look(what));
        }
        due("fault(0) behind " + call, x.fault(0), twin.fault(0));
        due("fault(1) behind " + call, x.fault(1), twin.fault(1));
        int today = twin.look(0);
        int claims = Math.min(4, twin.look(1));
        for (int c = 0; c < claims; c++) {
            due("last(" + c + ") behind " + call, x.last(c), twin.last(c));
            due("pay(" + c + ") behind " + call, x.pay(c), twin.pay(c));
            for (int what = 0; what < 4; what++) {
                due("span(" + c + ", " + what + ") behind " + call, x.span(c, what), twin.span(c, what));
                for (int day = 0; day < 60; day += 14) {
                    due("step(" + c + ", " + day + ", " + what + ") behind " + call, x.step(c, day, what), twin.step(c, day, what));
                }
            }
        }
        for (int p = 0; p < 6; p++) {
            due("changed(" + p + ", 0) behind " + call, x.changed(p, 0), twin.changed(p, 0));
        }
        for (int day = today; day <= today + 60; day += 20) {
            due("cheapest(" + day + ", 0) behind " + call, x.cheapest(day, 0), twin.cheapest(day, 0));
            due("cheapest(" + day + ", 1) behind " + call, x.cheapest(day, 1), twin.cheapest(day, 1));
            due("worth(" + day + ", 9999, 1) behind " + call, x.worth(day, 9999, 1), twin.worth(day, 9999, 1));
            due("one(" + day + ", 1) behind " + call, x.one(day, 1), twin.one(day, 1));
            due("contest(" + day + ", 2, 0) behind " + call, x.contest(day, 2, 0), twin.contest(day, 2, 0));
            due("contest(" + day + ", 2, 10) behind " + call, x.contest(day, 2, 10), twin.contest(day, 2, 10));
        }
    }
}
