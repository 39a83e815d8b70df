/** Counts answers that are not due, and puts texts on a tape. */
final class Check {
    private static int wrong = 0;

    private Check() {
    }

    static void due(String call, int got, int want) {
        if (got != want) {
            wrong++;
            System.out.println(call + " answered " + got + ", due is " + want);
        }
    }

    static void due(String call, boolean got, boolean want) {
        due(call, got ? 1 : 0, want ? 1 : 0);
    }

    static void leave(String name) {
        System.out.println(name + (wrong == 0 ? ": all answers are as due" : ": " + wrong + " answers are not as due"));
        System.exit(wrong == 0 ? 0 : 1);
    }

    /** Feeds the text, cut to its length. */
    static void feed(RanOut x, String text) {
        for (int i = 0; i < text.length(); i += 20) {
            int[] n = new int[5];
            for (int j = 0; j < 20; j++) {
                int sign = i + j < text.length() ? text.charAt(i + j) & 255 : ' ';
                n[j / 4] = n[j / 4] << 8 | sign;
            }
            x.feed(n[0], n[1], n[2], n[3], n[4]);
        }
        x.end(text.length());
    }

    static int tell(RanOut x, int law, String text) {
        feed(x, text);
        return x.text(law);
    }

    /** An object whose law 0 is that text. */
    static RanOut with(String text) {
        RanOut x = new RanOut();
        if (tell(x, 0, text) == RanOut.NONE) {
            due("text of " + text + ", fault at " + x.fault(1), x.fault(0), 0);
        }
        return x;
    }
}
