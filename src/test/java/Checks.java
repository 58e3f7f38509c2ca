/** What the tests share: counting wrong answers, feeding texts, filling sheets. */
final class Checks {
    static final int NULL = -1000011, PLACE = -1000012, KIND = -1000013, SIZE = -1000014, STORE = -1000015;

    private final String test;
    private int asked;
    private int wrong;

    Checks(String test) {
        this.test = test;
    }

    void due(String call, long want, long got) {
        asked++;
        if (got != want) {
            wrong++;
            if (wrong <= 50) {
                System.out.println(test + ": " + call + " answered " + got + ", due is " + want);
            }
        }
    }

    /** Ends the test: with 1 if an answer was wrong. */
    void end() {
        System.out.println(test + ": " + asked + " answers, " + wrong + " wrong");
        if (wrong != 0) {
            System.exit(1);
        }
    }

    static void feed(FireRows x, String text) {
        for (int at = 0; at < text.length(); at += 8) {
            String part = text.substring(at, Math.min(text.length(), at + 8));
            long w = 0;
            for (int i = 0; i < part.length(); i++) {
                w = w << 8 | part.charAt(i) & 255;
            }
            x.feed(w, part.length());
        }
    }

    static int read(FireRows x, String text) {
        feed(x, text);
        return x.floor();
    }

    static FireRows world(String text) {
        FireRows x = new FireRows();
        int stories = read(x, text);
        if (stories < 1) {
            throw new IllegalStateException("the text has a fault: " + stories + ": " + text);
        }
        return x;
    }

    /** Fills a sheet of ints. */
    static void fill(FireRows x, int sheet, int... items) {
        x.sheet(sheet, 2, items.length);
        for (int i = 0; i < items.length; i++) {
            x.set(sheet, i, items[i]);
        }
    }
}
