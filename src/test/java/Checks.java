/** Counts the answers that are not as due, prints them, and ends a test with exit code 1 if there was one. */
final class Checks {
    static final int BAD = -1000000001, NO = -1000000002, FULL = -1000000003, NONE = -1000000005;
    static final int NOTHING = -1000000011, INDEX = -1000000013, SIZE = -1000000014;
    static final int LEAST_INT = Integer.MIN_VALUE, MOST_INT = Integer.MAX_VALUE;

    private int asked;
    private int wrong;

    void due(String call, int got, int want) {
        asked++;
        if (got != want) {
            wrong++;
            System.out.println(call + " answered " + got + ", due is " + want);
        }
    }

    void holds(String what, boolean isTrue) {
        asked++;
        if (!isTrue) {
            wrong++;
            System.out.println(what);
        }
    }

    void end() {
        System.out.println(wrong == 0 ? asked + " answers are as due" : wrong + " answers are not as due");
        if (wrong != 0) {
            System.exit(1);
        }
    }

    /** Puts a text (108 bytes at most) on an empty tape. */
    static void feedText(StrikeBallots x, String text) {
        for (int i = 0; i < text.length(); i += 12) {
            x.feed(four(text, i), four(text, i + 4), four(text, i + 8));
        }
        x.trim(text.length());
    }

    static int lawOf(StrikeBallots x, String text) {
        feedText(x, text);
        return x.law();
    }

    static void tellAll(StrikeBallots x, int... numbers) {
        for (int v : numbers) {
            x.tell(v);
        }
    }

    /** Four bytes of a text as a number, the highest first. */
    static int four(String text, int from) {
        int four = 0;
        for (int i = from; i < from + 4; i++) {
            four = four << 8 | (i < text.length() ? text.charAt(i) & 255 : 0);
        }
        return four;
    }
}
