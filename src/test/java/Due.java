/** Counts and prints the answers that are not the ones that are due. */
final class Due {
    private final String test;
    private int asked = 0;
    private int wrong = 0;

    Due(String test) {
        this.test = test;
    }

    void is(String call, long got, long want) {
        asked++;
        if (got != want) {
            wrong++;
            if (wrong <= 20) {
                System.out.println(test + ": " + call + " answered " + got + ", due is " + want);
            }
        }
    }

    boolean failed() {
        return wrong > 0;
    }

    void end() {
        System.out.println(test + ": " + asked + " answers, " + wrong + " not as due");
        if (wrong > 0 || asked == 0) {
            System.exit(1);
        }
    }

    /** Feeds a text to the tape, eight bytes at a time; answers what the last feed did. */
    static int feed(PostsFilled x, String text) {
        int had = 0;
        for (int from = 0; from < text.length(); from += 8) {
            int n = Math.min(8, text.length() - from);
            long bytes = 0;
            for (int i = n - 1; i >= 0; i--) {
                bytes = bytes << 8 | (text.charAt(from + i) & 255);
            }
            had = x.feed(n, bytes);
        }
        return had;
    }

    static int text(PostsFilled x, String text) {
        feed(x, text);
        return x.text();
    }

    static void row(PostsFilled x, int sheet, int sort, int... cells) {
        x.sheet(sheet, sort, cells.length);
        for (int i = 0; i < cells.length; i++) {
            x.cell(sheet, i, cells[i]);
        }
    }
}
