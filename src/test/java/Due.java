/** What the tests share: the ERRORS, and a count of the answers that are not the ones that are due. */
final class Due {
    static final int LOW = -1000000000;
    static final int BEYOND = LOW - 1;
    static final int NONE = LOW - 2;
    static final int STATE = LOW - 3;
    static final int FULL = LOW - 4;
    static final int KIND = LOW - 5;
    static final int LEAST = Integer.MIN_VALUE;
    static final int MOST = Integer.MAX_VALUE;

    private int wrong = 0;
    private int asked = 0;
    private String part = "";

    void promise(String name) {
        part = name;
    }

    void due(String call, long got, long want) {
        same(call, got, want);
    }

    void same(String call, Object got, Object want) {
        asked++;
        if (!got.equals(want)) {
            wrong++;
            System.out.println(part + ": " + call + " answered " + got + ", due is " + want);
        }
    }

    void end() {
        System.out.println(wrong == 0 ? asked + " answers are as due" : wrong + " answers are not as due");
        if (wrong != 0) {
            System.exit(1);
        }
    }

    /** Feeds THE TAPE with a text, by as few calls as can be. */
    static int feed(LipsThatFit x, String text) {
        int size = x.count(7);
        for (int from = 0; from < text.length(); from += 8) {
            int n = Math.min(8, text.length() - from);
            long word = 0;
            for (int i = n - 1; i >= 0; i--) {
                word = word << 8 | text.charAt(from + i);
            }
            size = x.feed(word, n);
        }
        return size;
    }

    static int text(LipsThatFit x, int use, String text) {
        feed(x, text);
        return x.text(use);
    }
}
