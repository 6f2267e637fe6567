/** Compares answers with what is due, and counts those that differ. */
final class Due {
    static final int BEYOND = -1000000001;
    static final int NONE = -1000000002;
    static final int STATE = -1000000003;
    static final int FULL = -1000000004;
    static final int KIND = -1000000005;

    private static final int MOST_SHOWN = 40;
    private int asked;
    private int wrong;

    void due(String call, long got, long want) {
        asked++;
        if (got != want) {
            wrong++;
            if (wrong <= MOST_SHOWN) {
                System.out.println(call + " answered " + got + ", due is " + want);
            }
        }
    }

    /** Compares two texts of many lines; the first line that differs is told. */
    void same(String call, String got, String want) {
        asked++;
        if (!got.equals(want)) {
            wrong++;
            if (wrong <= MOST_SHOWN) {
                System.out.println(call + ": " + firstUnlike(got.split("\n"), want.split("\n")));
            }
        }
    }

    private static String firstUnlike(String[] got, String[] want) {
        int i = 0;
        while (i < got.length && i < want.length && got[i].equals(want[i])) {
            i++;
        }
        return (i < got.length ? got[i] : "nothing") + ", due is " + (i < want.length ? want[i] : "nothing");
    }

    void end() {
        System.out.println(asked + " answers asked, " + wrong + " not as due");
        if (wrong != 0) {
            System.exit(1);
        }
    }

    /** Feeds a text of signs 0 to 255, eight at once. */
    static void feed(UnderstudyHouse x, String text) {
        for (int from = 0; from < text.length(); from += 8) {
            int n = Math.min(8, text.length() - from);
            long word = 0;
            for (int i = n - 1; i >= 0; i--) {
                word = word << 8 | text.charAt(from + i);
            }
            x.feed(word, n);
        }
    }

    static int text(UnderstudyHouse x, int use, String text) {
        feed(x, text);
        return x.text(use);
    }

    /** A sheet with these numbers. */
    static void row(UnderstudyHouse x, int sheet, int bits, int... numbers) {
        x.sheet(sheet, bits, numbers.length);
        for (int i = 0; i < numbers.length; i++) {
            x.put(sheet, i, numbers[i]);
        }
    }
}
