/** What the tests share: a count of wrong answers, and nets told in one go. */
final class Check {
    static final int NONE = -1000000, BAD = -1000001, STATE = -1000002, FULL = -1000003;

    private static int right;
    private static int wrong;

    private Check() {
    }

    static void due(String call, long got, long want) {
        if (got == want) {
            right++;
        } else {
            wrong++;
            System.out.println(call + " answered " + got + ", due is " + want);
        }
    }

    static void holds(String rule, boolean held) {
        due(rule, held ? 1 : 0, 1);
    }

    static void feed(HotLetters x, String text) {
        for (int i = 0; i < text.length(); i++) {
            x.feed(text.charAt(i));
        }
    }

    /** A new object whose net is this text, which must be without a fault. */
    static HotLetters told(String text) {
        HotLetters x = new HotLetters();
        feed(x, text);
        holds("net() of " + text, x.net() >= 0);
        return x;
    }

    /** Several answers of one kind of call, in a row. */
    static void row(String call, long[] got, long... want) {
        due(call + ", how many", got.length, want.length);
        for (int i = 0; i < got.length && i < want.length; i++) {
            due(call + " number " + i, got[i], want[i]);
        }
    }

    static void end() {
        System.out.println(right + " answers right, " + wrong + " wrong");
        System.exit(wrong == 0 ? 0 : 1);
    }
}
