/** Terms 1 and promises 1 to 12, at their bounds: TENTHS, WORDS, LINES, SEEN, ENDS, OFF, LOSS, NOTICED. */
public final class FilmEdgesTest {
    private static final Due due = new Due();

    private static final int KINDS = 7;
    private static final int HIDDEN = 3;

    private static void due(String call, long got, long want) {
        due.due(call, got, want);
    }

    private static void tenths() {
        due.promise("Terms 1: TENTHS 0 to 59, each with a MOUTH, CLOSED at first");
        for (int tenth : new int[] {0, 1, 30, 58, 59}) {
            for (int v = 1; v <= HIDDEN; v++) {
                LipsThatFit x = new LipsThatFit();
                due("mouth(" + tenth + ", 1, " + v + ")", x.mouth(tenth, 1, v), 1);
                filmIs(x, tenth, tenth, v);
                due("mouth(" + tenth + ", 1, 0)", x.mouth(tenth, 1, 0), 1);
                filmIs(x, tenth, tenth, 0);
            }
        }
        due.promise("promise 2: MOUTHS of n TENTHS (1 to 60) from one on");
        int[][] parts = {{0, 1}, {0, 2}, {0, 59}, {0, 60}, {1, 59}, {1, 58}, {58, 1}, {58, 2}, {59, 1}, {30, 30}};
        for (int[] part : parts) {
            LipsThatFit x = new LipsThatFit();
            due("mouth(" + part[0] + ", " + part[1] + ", 2)", x.mouth(part[0], part[1], 2), part[1]);
            filmIs(x, part[0], part[0] + part[1] - 1, 2);
        }
    }

    /** MOUTHS are v from one TENTH to another, else CLOSED. */
    private static void filmIs(LipsThatFit x, int from, int to, int v) {
        for (int i = 0; i < 60; i++) {
            due("mouthAt(" + i + ")", x.mouthAt(i), i >= from && i <= to ? v : 0);
        }
    }

    private static void words() {
        due.promise("Terms 1: WORDS of 1 to 5 SYLLABLES, and a SENSE (0 to 99), at most 10");
        int[] syllables = {1, 2, 3, 11, 33, 321, 1231, 11111, 22222, 33333};
        int[] lengths = {1, 1, 1, 2, 2, 3, 4, 5, 5, 5};
        int[] senses = {0, 1, 2, 50, 97, 98, 99, 99, 0, 1};
        LipsThatFit x = new LipsThatFit();
        for (int i = 0; i < 10; i++) {
            due("count(0)", x.count(0), i);
            due("word(" + syllables[i] + ", " + senses[i] + ")", x.word(syllables[i], senses[i]), i);
        }
        due("the eleventh", x.word(1, 1), Due.FULL);
        due("count(0)", x.count(0), 10);
        for (int i = 0; i < 10; i++) {
            due("ofWord(" + i + ", 0)", x.ofWord(i, 0), syllables[i]);
            due("ofWord(" + i + ", 1)", x.ofWord(i, 1), lengths[i]);
            due("ofWord(" + i + ", 2)", x.ofWord(i, 2), senses[i]);
        }
        due.promise("promise 4: the first digit the highest, each MOUTH and 1");
        Due.text(x, 0, "w*8*(n=0)+w*3*(n=1)+w");
        x.line(0, 0, 3);
        // WIDE, ROUND, CLOSED: 16 and 2; 3 and 1; 0
        due("say(0, 1, 5, 0, 0)", x.say(0, 1, 5, 0, 0), 18 + 4);
        // the tenth one: WIDE three times, and two too many
        due("say(0, 1, 9, 0, 0)", x.say(0, 1, 9, 0, 0), 18 + 8 + 2 + 2);
    }

    private static void lines() {
        due.promise("Terms 1: LINES, at most 6, with a number m (0 to 9), a BEGIN and LASTS (1 to 15)");
        int[][] given = {{0, 0, 1}, {9, 0, 15}, {10, 45, 15}, {39, 59, 1}, {60, 58, 2}, {69, 46, 14}};
        LipsThatFit x = new LipsThatFit();
        for (int i = 0; i < 6; i++) {
            due("count(1)", x.count(1), i);
            due("line " + i, x.line(given[i][0], given[i][1], given[i][2]), i);
        }
        due("the seventh", x.line(0, 0, 1), Due.FULL);
        due("count(1)", x.count(1), 6);
        for (int i = 0; i < 6; i++) {
            // WANTED is 0 at first, and no WORDS are SAID
            int[] want = {given[i][0] / 10, given[i][0] % 10, given[i][1], given[i][2], 0, 0};
            for (int what = 0; what < want.length; what++) {
                due("ofLine(" + i + ", " + what + ")", x.ofLine(i, what), want[what]);
            }
            due("LOSS at first", x.ofLine(i, 7), 0);
            due("said(" + i + ", 0) at first", x.said(i, 0), Due.NONE);
        }
    }

    /** A LINE of one TENTH, to which a WORD of one SYLLABLE is SAID. */
    private static LipsThatFit single(String apart) {
        LipsThatFit x = new LipsThatFit();
        Due.text(x, 0, apart);
        x.word(1, 0);
        x.line(0, 30, 1);
        x.say(0, 1, 0, 0, 0);
        return x;
    }

    private static void seen() {
        due.promise("Terms 1: SEEN");
        // by v: LINE, NEAR, FAR, TURNED, LAUGHED of m 4, NAMED of m 4 (ENDS of 0 aside), BREATHED
        int[][] want = {{0, 0, 0, 0, 0, 4, 0, 0}, {1, 1, 2, 0, 0, 6, 0, 1}, {2, 2, 4, 1, 0, 8, 0, 1},
            {3, 3, 6, 1, 0, 10, 0, 1}, {7, 7, 14, 3, 0, 18, 0, 1}, {8, 8, 16, 4, 0, 20, 4, 1},
            {9, 9, 18, 4, 0, 22, 4, 1}, {10, 10, 20, 5, 0, 24, 5, 1}, {98, 98, 196, 49, 0, 200, 49, 1},
            {99, 99, 198, 49, 0, 202, 49, 1}};
        for (int[] row : want) {
            LipsThatFit x = single(String.valueOf(row[0]));
            for (int kind = 0; kind < KINDS; kind++) {
                x.become(0, 10 * kind + 4);
                due("KIND " + kind + " by " + row[0], x.ofLine(0, 6), row[1 + kind] + (kind == 5 ? 4 : 0));
            }
        }
        due.promise("Terms 1: LAUGHED: as NEAR, and m; NAMED: 0 if that is below m");
        for (int m = 0; m <= 9; m++) {
            for (int half = Math.max(0, m - 1); half <= m + 1; half++) {
                for (int odd = 0; odd <= 1; odd++) {
                    LipsThatFit x = single(String.valueOf(2 * half + odd));
                    x.become(0, 50 + m);
                    due("NAMED " + m + " by " + (2 * half + odd), x.ofLine(0, 6), m + (half < m ? 0 : half));
                    x.become(0, 40 + m);
                    due("LAUGHED " + m + " by " + (2 * half + odd), x.ofLine(0, 6), 4 * half + 2 * odd + m);
                }
            }
        }
    }

    private static void ends() {
        due.promise("Terms 1: ENDS");
        // by v: LINE, NEAR, FAR, TURNED, LAUGHED, NAMED of m 7, BREATHED
        int[][] want = {{0, 0, 0, 0, 0, 0, 7, 0}, {1, 1, 3, 1, 0, 0, 8, 0}, {2, 2, 6, 2, 1, 6, 9, 0},
            {3, 3, 9, 3, 2, 9, 10, 1}, {4, 4, 12, 4, 3, 12, 11, 1}, {5, 5, 15, 5, 4, 15, 12, 2},
            {13, 13, 39, 13, 12, 39, 20, 6}, {14, 14, 42, 14, 13, 42, 21, 6}, {15, 15, 45, 15, 14, 45, 22, 7}};
        for (int[] row : want) {
            for (int kind = 0; kind < KINDS; kind++) {
                LipsThatFit x = new LipsThatFit();
                x.mouth(0, 60, HIDDEN);
                int v = row[0];
                String call = "KIND " + kind + ", ENDS of " + v;
                if (v > 0) {
                    x.line(10 * kind + 7, 0, v);
                    due(call + ", none SAID", x.ofLine(0, 6), row[1 + kind]);
                }
                if (v < 15) {
                    x.line(10 * kind + 7, 0, 1);
                    due(call + ", too late", sayLong(x, x.count(1) - 1, v + 1), row[1 + kind]);
                    x.line(10 * kind + 7, 0, 15);
                    due(call + ", too soon", sayLong(x, x.count(1) - 1, 15 - v), row[1 + kind]);
                }
                due("ENDS of 2", x.ofLine(0, 9), want[2][1 + kind]);
            }
        }
        LipsThatFit x = new LipsThatFit();
        x.line(0, 0, 1);
        for (int m = 0; m <= 9; m++) {
            x.become(0, 50 + m);
            due("NAMED " + m + ", ENDS of 2", x.ofLine(0, 9), 2 + m);
            due("NAMED " + m + ", ENDS of 1", x.ofLine(0, 6), 1 + m);
        }
    }

    /** A ROW of so many SYLLABLES (1 to 15), all CLOSED, is SAID. */
    private static int sayLong(LipsThatFit x, int line, int syllables) {
        int first = Math.min(5, syllables);
        int second = Math.min(5, syllables - first);
        int third = syllables - first - second;
        int size = 1 + (second > 0 ? 1 : 0) + (third > 0 ? 1 : 0);
        return x.say(line, size, wordOf(x, first), wordOf(x, second), wordOf(x, third));
    }

    /** A WORD of so many SYLLABLES, all CLOSED: one that is there, or a new one. */
    private static int wordOf(LipsThatFit x, int syllables) {
        int digits = Integer.parseInt("0" + "1".repeat(syllables));
        for (int word = 0; word < x.count(0); word++) {
            if (x.ofWord(word, 0) == digits) {
                return word;
            }
        }
        return syllables == 0 ? 0 : x.word(digits, 0);
    }

    private static void off() {
        due.promise("Terms 1: for each of its TENTHS in which there is a SYLLABLE: SEEN; then ENDS");
        for (int lasts = 1; lasts <= 15; lasts++) {
            for (int syllables = 1; syllables <= 15; syllables++) {
                LipsThatFit x = new LipsThatFit();
                Due.text(x, 0, "20");
                x.line(0, 45, lasts);
                due(syllables + " SYLLABLES in " + lasts, sayLong(x, 0, syllables),
                        20 * Math.min(lasts, syllables) + Math.abs(lasts - syllables));
            }
        }
        due.promise("Terms 1: one a TENTH, from its BEGIN on; the MOUTH of THE FILM isn't HIDDEN");
        for (int begin : new int[] {0, 1, 44, 45}) {
            for (int tenth = Math.max(0, begin - 1); tenth <= Math.min(59, begin + 15); tenth++) {
                boolean its = tenth >= begin && tenth < begin + 15;
                LipsThatFit x = new LipsThatFit();
                x.line(0, begin, 15);
                sayLong(x, 0, 15);
                due("all alike", x.ofLine(0, 6), 0);
                x.mouth(tenth, 1, 1);
                due("BEGIN " + begin + ", ROUND at " + tenth, x.ofLine(0, 6), its ? 5 : 0);
                Due.text(x, 0, "9");
                x.mouth(tenth, 1, HIDDEN);
                due("BEGIN " + begin + ", HIDDEN at " + tenth, x.ofLine(0, 6), 135 - (its ? 9 : 0));
            }
        }
        due.promise("Terms 1: SYLLABLES that come behind THE FILM");
        LipsThatFit x = new LipsThatFit();
        x.line(0, 59, 1);
        x.mouth(59, 1, 2);
        due("15 SYLLABLES from TENTH 59 on", sayLong(x, 0, 15), 5 + 14);
        due.promise("Terms 2: n the TENTH of the LINE (0 on)");
        for (int n = 0; n <= 15; n++) {
            LipsThatFit y = new LipsThatFit();
            Due.text(y, 0, "(n=" + n + ")*50");
            y.line(0, 45, 15);
            due("OFF by n of " + n, sayLong(y, 0, 15), n < 15 ? 50 : 0);
        }
    }

    private static void loss() {
        due.promise("Terms 1: LOSS: what SENSE together is less than WANTED (0 at least)");
        LipsThatFit x = new LipsThatFit();
        x.word(1, 33);
        x.word(1, 0);
        x.word(1, 99);
        x.line(0, 0, 1);
        int[][] want = {{0, 0, 0, 0}, {1, 1, 0, 0}, {32, 32, 0, 0}, {33, 33, 0, 0}, {34, 34, 1, 0}, {65, 65, 32, 0},
            {66, 66, 33, 0}, {67, 67, 34, 1}, {98, 98, 65, 32}, {99, 99, 66, 33}};
        for (int[] row : want) {
            x.wanted(0, row[0]);
            for (int n = 0; n <= 2; n++) {
                x.say(0, n, 0, 0, 0);
                due("WANTED " + row[0] + ", SENSE " + 33 * n, x.ofLine(0, 7), row[1 + n]);
            }
        }
        x.say(0, 3, 0, 0, 0);
        due("WANTED 99, SENSE 99", x.ofLine(0, 7), 0);
        x.say(0, 3, 2, 2, 2);
        due("WANTED 99, SENSE 297", x.ofLine(0, 7), 0);
        x.say(0, 3, 1, 1, 1);
        due("WANTED 99, SENSE 0", x.ofLine(0, 7), 99);
    }

    private static void noticed() {
        due.promise("Terms 1: NOTICED: what the other TEXT gives isn't 0");
        LipsThatFit x = single("0");
        x.line(0, 0, 4);
        x.line(0, 0, 3);
        String[] texts = {"0", "1", "0-1", "2", "9999*9999*9999", "0-9999*9999*9999", "o", "l", "o-4", "o=3"};
        int[][] want = {{0, 0, 0}, {1, 1, 1}, {1, 1, 1}, {1, 1, 1}, {1, 1, 1}, {1, 1, 1}, {0, 1, 1}, {0, 0, 0},
            {1, 0, 1}, {0, 0, 1}};
        due("without a TEXT, OFF of 4 is", x.ofLine(1, 8), 1);
        due("without a TEXT, OFF of 3 isn't", x.ofLine(2, 8), 0);
        for (int i = 0; i < texts.length; i++) {
            Due.text(x, 1, texts[i]);
            for (int line = 0; line < 3; line++) {
                due("LINE " + line + " by " + texts[i], x.ofLine(line, 8), want[i][line]);
            }
            due("count(6)", x.count(6), want[i][0] + want[i][1] + want[i][2]);
        }
    }

    private static void rows() {
        due.promise("promise 12: a ROW of n WORDS (0 to 3), as many as count");
        LipsThatFit x = new LipsThatFit();
        for (int i = 0; i < 10; i++) {
            x.word(1, 0);
        }
        x.line(0, 0, 3);
        for (int n : new int[] {3, 2, 1, 0, 1, 2, 3}) {
            due("say(0, " + n + ", 9, 0, 8)", x.say(0, n, 9, 0, 8), 3 - n);
            due("ofLine(0, 5)", x.ofLine(0, 5), n);
            int[] row = {9, 0, 8};
            for (int i = 0; i < 3; i++) {
                due("said(0, " + i + ") of " + n, x.said(0, i), i < n ? row[i] : Due.NONE);
            }
            due("said(0, 3) of " + n, x.said(0, 3), Due.BEYOND);
        }
        LipsThatFit mute = new LipsThatFit();
        mute.line(0, 0, 3);
        due("say(0, 0, 0, 0, 0) without WORDS", mute.say(0, 0, 0, 0, 0), 3);
        due("say(0, 1, 0, 0, 0) without WORDS", mute.say(0, 1, 0, 0, 0), Due.BEYOND);
        due("ofLine(0, 5)", mute.ofLine(0, 5), 0);
    }

    private static void becomes() {
        due.promise("promises 9 to 11: km, m and WANTED at their bounds");
        LipsThatFit x = new LipsThatFit();
        x.word(1, 1);
        x.line(0, 45, 15);
        x.wanted(0, 99);
        x.say(0, 1, 0, 0, 0);
        int was = 0;
        for (int km : new int[] {0, 1, 9, 10, 19, 20, 29, 30, 39, 40, 49, 50, 59, 60, 68, 69}) {
            due("become(0, " + km + ")", x.become(0, km), was);
            was = km / 10;
            due("as(0, 0)", x.as(0, 0), km % 10);
            due("as(0, " + was + ")", x.as(0, was), km % 10);
            int[] want = {was, km % 10, 45, 15, 99, 1};
            for (int what = 0; what < want.length; what++) {
                due("ofLine(0, " + what + ")", x.ofLine(0, what), want[what]);
            }
        }
        int ahead = 99;
        for (int v : new int[] {0, 1, 98, 99}) {
            due("wanted(0, " + v + ")", x.wanted(0, v), ahead);
            ahead = v;
            due("ofLine(0, 4)", x.ofLine(0, 4), v);
        }
    }

    public static void main(String[] args) {
        tenths();
        words();
        lines();
        seen();
        ends();
        off();
        loss();
        noticed();
        rows();
        becomes();
        due.end();
    }
}
