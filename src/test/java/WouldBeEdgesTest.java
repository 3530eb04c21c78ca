import java.math.BigInteger;

/** Terms 3 and promises 18 to 26, at their bounds: what would be. */
public final class WouldBeEdgesTest {
    private static final Due due = new Due();

    private static final int HIDDEN = 3;

    private static void due(String call, long got, long want) {
        due.due(call, got, want);
    }

    /** An object with WORDS (digits and SENSE by turns) and a LINE from TENTH 0 on. */
    private static LipsThatFit world(int lasts, int wanted, int... words) {
        LipsThatFit x = new LipsThatFit();
        for (int i = 0; i < words.length; i += 2) {
            x.word(words[i], words[i + 1]);
        }
        x.line(0, 0, lasts);
        x.wanted(0, wanted);
        return x;
    }

    private interface Found {
        int of(int what);
    }

    /** What is found: OFF, LOSS or how many ROWS there are, and the ROW; if worth is NONE, nothing is. */
    private static void found(String call, Found found, int worth, int... row) {
        due(call + ", what -2", found.of(-2), worth);
        due(call + ", what -1", found.of(-1), row.length == 0 ? Due.NONE : row.length);
        for (int i = 0; i < 3; i++) {
            due(call + ", what " + i, found.of(i), i < row.length ? row[i] : Due.NONE);
        }
        due(call + ", what -3", found.of(-3), Due.BEYOND);
        due(call + ", what 3", found.of(3), Due.BEYOND);
    }

    private static void best() {
        due.promise("Terms 3: BEST: of all ROWS of 1 to 3 WORDS with a LOSS of v at most");
        LipsThatFit x = world(1, 50, 1, 10);
        int[][] want = {{99, 0, 1}, {41, 0, 1}, {40, 0, 1}, {39, 1, 2}, {31, 1, 2}, {30, 1, 2}, {29, 2, 3}, {21, 2, 3},
            {20, 2, 3}, {19, Due.NONE, 0}, {1, Due.NONE, 0}, {0, Due.NONE, 0}};
        for (int[] a : want) {
            found("BEST by " + a[0], what -> x.best(0, a[0], what), a[1], new int[a[2]]);
        }
        due.promise("Terms 3: a LOSS of 0, and of 99");
        LipsThatFit none = world(1, 99, 1, 0);
        found("BEST by 99 of SENSE 0", what -> none.best(0, 99, what), 0, 0);
        found("BEST by 98 of SENSE 0", what -> none.best(0, 98, what), Due.NONE);
        LipsThatFit all = world(1, 99, 1, 98, 11, 99);
        found("BEST by 0 of SENSE 99", what -> all.best(0, 0, what), 1, 1);
        found("BEST by 1 of SENSE 98", what -> all.best(0, 1, what), 0, 0);
        LipsThatFit free = world(2, 0, 1, 0);
        found("BEST by 0, WANTED 0", what -> free.best(0, 0, what), 0, 0, 0);
        due.promise("Terms 3: of several the one with fewer WORDS, then the first as a row");
        LipsThatFit fewer = world(2, 0, 1, 0, 1, 0, 11, 0, 11, 0);
        found("BEST, one WORD ahead of two", what -> fewer.best(0, 0, what), 0, 2);
        LipsThatFit two = world(4, 0, 111, 0, 1, 0, 11, 0, 111, 0);
        found("BEST, the first of two WORDS", what -> two.best(0, 0, what), 0, 0, 1);
        LipsThatFit three = world(12, 0, 1, 0, 11111, 0, 111, 0, 1111, 0);
        found("BEST, the first of three WORDS", what -> three.best(0, 0, what), 0, 1, 2, 3);
        LipsThatFit less = world(3, 0, 2, 0, 11, 0, 1, 0);
        found("BEST, least OFF ahead of fewer WORDS", what -> less.best(0, 0, what), 0, 1, 2);
        due.promise("Terms 3: BEST of OFF above 0, of which the least is taken");
        LipsThatFit off = world(15, 0, 1, 0, 2, 0);
        found("BEST of 3 in 15", what -> off.best(0, 0, what), 12, 0, 0, 0);
    }

    private static void dearest() {
        due.promise("Terms 3: DEAREST: of all ROWS with OFF of v at most that with the least LOSS");
        LipsThatFit x = world(1, 99, 1, 10);
        int[][] want = {{0, 89, 1}, {1, 79, 2}, {2, 69, 3}, {3, 69, 3}, {99, 69, 3}};
        for (int[] a : want) {
            found("DEAREST by " + a[0], what -> x.dearest(0, a[0], what), a[1], new int[a[2]]);
        }
        due.promise("Terms 3: OFF of 99 and 100");
        LipsThatFit far = world(1, 5, 1, 5);
        Due.text(far, 0, "99");
        found("DEAREST by 98 of 99", what -> far.dearest(0, 98, what), Due.NONE);
        found("DEAREST by 99 of 99", what -> far.dearest(0, 99, what), 0, 0);
        far.line(0, 0, 2);
        found("DEAREST by 99 of 100", what -> far.dearest(1, 99, what), Due.NONE);
        due.promise("Terms 3: DEAREST, of several likewise");
        LipsThatFit fewer = world(2, 20, 1, 10, 1, 10, 11, 20, 11, 20);
        found("DEAREST by 0, one WORD ahead of two", what -> fewer.dearest(0, 0, what), 0, 2);
        found("DEAREST by 9, one WORD ahead of two", what -> fewer.dearest(0, 9, what), 0, 2);
        LipsThatFit two = world(2, 99, 1, 10, 1, 10);
        found("DEAREST by 0, the first of two", what -> two.dearest(0, 0, what), 79, 0, 0);
        LipsThatFit zero = world(1, 0, 2, 0, 1, 0, 1, 9);
        found("DEAREST by 0, WANTED 0", what -> zero.dearest(0, 0, what), 0, 1);
        LipsThatFit less = world(3, 99, 111, 40, 1, 10, 11, 50, 1, 49);
        found("DEAREST by 0, least LOSS ahead of fewer WORDS", what -> less.dearest(0, 0, what), 0, 2, 3);
    }

    private static void heard() {
        due.promise("Terms 3: HEARD: just as many SYLLABLES as the LINE LASTS");
        for (int lasts = 1; lasts <= 15; lasts++) {
            LipsThatFit x = world(lasts, 0, 11111, 0);
            int size = lasts / 5;
            found("HEARD in " + lasts, what -> x.heard(0, what), lasts % 5 == 0 ? 1 : 0,
                    new int[lasts % 5 == 0 ? size : 0]);
        }
        int[] ten = new int[20];
        for (int i = 0; i < 20; i += 2) {
            ten[i] = 1;
        }
        int[] many = {10, 100, 1000, 0};
        for (int lasts = 1; lasts <= 4; lasts++) {
            LipsThatFit x = world(lasts, 0, ten);
            found("HEARD of ten WORDS in " + lasts, what -> x.heard(0, what), many[lasts - 1],
                    new int[lasts < 4 ? lasts : 0]);
        }
        due.promise("Terms 3: HEARD: each with the MOUTH of THE FILM, if that isn't HIDDEN");
        for (int at = 0; at < 15; at++) {
            LipsThatFit x = world(15, 0, 11111, 0);
            x.mouth(at, 1, 1);
            found("HEARD, ROUND at " + at, what -> x.heard(0, what), 0);
            x.mouth(at, 1, HIDDEN);
            found("HEARD, HIDDEN at " + at, what -> x.heard(0, what), 1, 0, 0, 0);
        }
        LipsThatFit x = world(3, 0, 111, 0, 1, 0, 11, 0);
        x.mouth(3, 57, 2);
        found("HEARD, WIDE behind it", what -> x.heard(0, what), 4, 0);
        x.line(0, 57, 3);
        found("HEARD at THE FILM's end", what -> x.heard(1, what), 0);
        x.mouth(57, 3, 0);
        found("HEARD at THE FILM's end", what -> x.heard(1, what), 4, 0);
    }

    /** Some WORDS, and a LINE that is to have all SENSE that there can be. */
    private static LipsThatFit few(int words) {
        LipsThatFit x = new LipsThatFit();
        int[] digits = {11, 2, 3};
        for (int i = 0; i < words; i++) {
            x.word(digits[i], 10);
        }
        x.line(0, 0, 3);
        x.wanted(0, 99);
        return x;
    }

    /** The call is done with more WORDS, which are gone then. */
    private static void withMore(LipsThatFit x, Act call) {
        for (int i = 0; i < 4; i++) {
            x.word(1, 20 + i);
        }
        call.on(x);
        x.restore();
    }

    private static void behindMoreWords() {
        due.promise("promises 18 to 20, 36: of the WORDS that there are, not of those that there were");
        for (int words = 0; words <= 3; words++) {
            LipsThatFit x = few(words);
            LipsThatFit y = few(words);
            x.image();
            for (int i = -2; i <= 2; i++) {
                int what = i;
                for (int v : new int[] {0, 79, 99}) {
                    String call = v + ", " + what + ") of " + words + " WORDS";
                    withMore(x, z -> z.best(0, v, what));
                    due("best(0, " + call, x.best(0, v, what), y.best(0, v, what));
                    withMore(x, z -> z.dearest(0, v, what));
                    due("dearest(0, " + call, x.dearest(0, v, what), y.dearest(0, v, what));
                }
                withMore(x, z -> z.heard(0, what));
                due("heard(0, " + what + ") of " + words, x.heard(0, what), y.heard(0, what));
            }
            due("best(0, 99, 0) of " + words, x.best(0, 99, 0), words == 0 ? Due.NONE : 0);
            due("best(0, 99, -2) of " + words, x.best(0, 99, -2), words == 0 ? Due.NONE : 1);
        }
    }

    private static void oneBehindAnother() {
        due.promise("promises 18 to 20: what was asked ahead doesn't matter");
        LipsThatFit x = new LipsThatFit();
        int[] words = {11111, 22222, 33333, 12, 3};
        for (int i = 0; i < words.length; i++) {
            x.word(words[i], 10 * i);
        }
        x.mouth(7, 9, 1);
        Due.text(x, 0, "(f+1)*(w+2)+n");
        int[] lasts = {15, 10, 5, 1, 14, 11};
        for (int i = 0; i < lasts.length; i++) {
            x.line(10 * i + 3, 2 * i, lasts[i]);
            x.wanted(i, 99);
        }
        for (int i = 0; i < lasts.length; i++) {
            LipsThatFit y = new LipsThatFit();
            for (int k = 0; k < words.length; k++) {
                y.word(words[k], 10 * k);
            }
            y.mouth(7, 9, 1);
            Due.text(y, 0, "(f+1)*(w+2)+n");
            y.line(10 * i + 3, 2 * i, lasts[i]);
            y.wanted(0, 99);
            for (int what = -2; what <= 2; what++) {
                for (int v = 9; v <= 99; v += 30) {
                    due("best(" + i + ", " + v + ", " + what + ")", x.best(i, v, what), y.best(0, v, what));
                    due("dearest(" + i + ", " + v + ", " + what + ")", x.dearest(i, v, what), y.dearest(0, v, what));
                }
                due("heard(" + i + ", " + what + ")", x.heard(i, what), y.heard(0, what));
            }
        }
    }

    private static void must() {
        due.promise("Terms 3: MUST: in which of its TENTHS (0 on) a ROUND SYLLABLE would count, as a set");
        for (int lasts = 1; lasts <= 15; lasts++) {
            LipsThatFit x = new LipsThatFit();
            x.line(0, 45, lasts);
            int all = (1 << lasts) - 1;
            due("MUST of " + lasts, x.must(0), all);
            x.mouth(45 + lasts - 1, 1, HIDDEN);
            due("MUST, the last one HIDDEN", x.must(0), all >> 1);
            x.mouth(45 + lasts - 1, 1, 1);
            due("MUST, the last one ROUND", x.must(0), all >> 1);
            x.mouth(45, 1, HIDDEN);
            due("MUST, the first one HIDDEN", x.must(0), (all >> 1) & ~1);
            x.mouth(45, 15, 0);
            for (int n = 0; n < 15; n++) {
                Due.text(x, 0, "(n=" + n + ")*w");
                due("MUST of " + lasts + " at " + n, x.must(0), n < lasts ? 1 << n : 0);
            }
        }
        due.promise("Terms 3: MUST: SEEN by what the TEXT gives for it isn't 0");
        // KINDS (10 times, and m), what the TEXT gives, whether it counts
        String[] texts = {"0", "1", "2", "7", "8", "9", "0-1", "100"};
        int[][] counts = {{0, 0, 1, 1, 1, 1, 1, 0, 1}, {10, 0, 1, 1, 1, 1, 1, 0, 1}, {20, 0, 0, 1, 1, 1, 1, 0, 1},
            {30, 0, 0, 0, 0, 0, 0, 0, 0}, {40, 0, 1, 1, 1, 1, 1, 0, 1}, {41, 1, 1, 1, 1, 1, 1, 1, 1},
            {50, 0, 0, 1, 1, 1, 1, 0, 1}, {51, 0, 0, 1, 1, 1, 1, 0, 1}, {54, 0, 0, 0, 0, 1, 1, 0, 1},
            {59, 0, 0, 0, 0, 0, 0, 0, 1}, {60, 0, 1, 1, 1, 1, 1, 0, 1}};
        LipsThatFit x = new LipsThatFit();
        x.line(0, 10, 2);
        x.mouth(11, 1, HIDDEN);
        for (int i = 0; i < texts.length; i++) {
            Due.text(x, 0, texts[i]);
            for (int[] row : counts) {
                x.become(0, row[0]);
                due("MUST of KIND " + row[0] + " by " + texts[i], x.must(0), row[1 + i]);
            }
        }
    }

    private static void forgotten() {
        due.promise("Terms 3: FORGOTTEN: behind how many MINUTES from now on (0 to 500)");
        LipsThatFit x = new LipsThatFit();
        x.line(0, 0, 1);
        for (int minute : new int[] {0, 1}) {
            for (int n : new int[] {0, 1, 2, 499, 500, 501, 502}) {
                Due.text(x, 1, "t<" + (minute + n));
                due("at " + minute + ", NOTICED below " + (minute + n), x.forgotten(0), n <= 500 ? n : Due.NONE);
            }
            x.minutes(1);
        }
        due.promise("Terms 3: FORGOTTEN: first");
        Due.text(x, 1, "t=2|t>5");
        due("NOTICED at 2, and from 6 on", x.forgotten(0), 1);
        due.promise("Terms 3: FORGOTTEN: beyond 9999, too");
        while (x.count(2) < 9999) {
            x.minutes(Math.min(500, 9999 - x.count(2)));
        }
        Object[][] late = {{"t<9999", 0}, {"t<9999+1", 1}, {"t<9999+2", 2}, {"t<9999+499", 499}, {"t<9999+500", 500},
            {"t<9999+501", Due.NONE}, {"t-9999-500", 500}, {"t-9999-501", Due.NONE}, {"9999-t", 0}, {"9999+500-t", 500}};
        for (Object[] row : late) {
            Due.text(x, 1, (String) row[0]);
            due("at 9999, NOTICED by " + row[0], x.forgotten(0), (Integer) row[1]);
        }
        due("MINUTE", x.count(2), 9999);
        due.promise("Terms 3: FORGOTTEN by OFF and LOSS as it is SAID");
        LipsThatFit y = new LipsThatFit();
        y.word(1, 4);
        y.line(0, 0, 6);
        y.wanted(0, 9);
        Due.text(y, 1, "o+l>t");
        due("none SAID", y.forgotten(0), 15);
        y.say(0, 1, 0, 0, 0);
        due("one SAID", y.forgotten(0), 10);
    }

    private static void likes() {
        due.promise("Terms 3: LIKE of a FACE and a VOICE (0 to 99; 0 at first)");
        LipsThatFit x = new LipsThatFit();
        for (int i = 0; i < 16; i++) {
            int was = 0;
            for (int v : new int[] {0, 1, 98, 99, i}) {
                due("like(" + i / 4 + ", " + i % 4 + ", " + v + ")", x.like(i / 4, i % 4, v), was);
                was = v;
            }
        }
        for (int i = 0; i < 16; i++) {
            due("like(" + i / 4 + ", " + i % 4 + ", 99)", x.like(i / 4, i % 4, 99), i);
        }
        due.promise("Terms 3: CAST: LIKES of all are most together; of several the first");
        cast("all 99", x, 396, 0, 1, 2, 3);
        cast("none", new LipsThatFit(), 0, 0, 1, 2, 3);
        for (int i = 0; i < 256; i++) {
            int[] voices = {i >> 6, i >> 4 & 3, i >> 2 & 3, i & 3};
            if ((1 << voices[0] | 1 << voices[1] | 1 << voices[2] | 1 << voices[3]) != 15) {
                continue;
            }
            LipsThatFit y = new LipsThatFit();
            for (int face = 0; face < 4; face++) {
                y.like(face, voices[face], 1);
            }
            cast("cast " + i, y, 4, voices);
        }
        // each alone is best by VOICE 0, but together they are not
        LipsThatFit together = new LipsThatFit();
        int[] likes = {99, 98, 1, 0, 99, 1, 0, 0, 99, 0, 2, 0, 99, 0, 0, 3};
        for (int i = 0; i < 16; i++) {
            together.like(i / 4, i % 4, likes[i]);
        }
        cast("together", together, 202, 1, 0, 2, 3);
        LipsThatFit ties = new LipsThatFit();
        ties.like(0, 1, 5);
        ties.like(3, 1, 5);
        cast("of two the first", ties, 5, 0, 2, 3, 1);
        ties.like(0, 1, 6);
        cast("of two the one that is more", ties, 6, 1, 0, 2, 3);
    }

    private static void cast(String which, LipsThatFit x, int sum, int... voices) {
        due(which + ", cast(-1)", x.cast(-1), sum);
        for (int face = 0; face < 4; face++) {
            due(which + ", cast(" + face + ")", x.cast(face), voices[face]);
        }
    }

    private static void odds() {
        due.promise("Terms 3: TAKES: a fraction in lowest terms (0 is 0 by 1)");
        LipsThatFit x = new LipsThatFit();
        for (int p = 1; p <= 16; p++) {
            for (int n = 0; n <= 6; n++) {
                BigInteger all = BigInteger.valueOf(16).pow(n);
                BigInteger good = all.subtract(BigInteger.valueOf(16 - p).pow(n));
                BigInteger both = good.gcd(all);
                due("takes(" + p + ", " + n + ", 0)", x.takes(p, n, 0), good.divide(both).longValue());
                due("takes(" + p + ", " + n + ", 1)", x.takes(p, n, 1), all.divide(both).longValue());
            }
        }
        due("takes(0, 1, 0), a long", x.takes(0, 1, 0), -1000000001L);
        due.promise("Terms 3: ENOUGH: the least n (1 to 6) by which these odds are a of 16 (1 to 15) at least");
        // p, a and n, where the odds are just a of 16, where a is one more, and where 6 takes are just enough
        int[][] want = {{1, 1, 1}, {1, 2, 3}, {8, 8, 1}, {8, 9, 2}, {8, 12, 2}, {8, 13, 3}, {8, 14, 3}, {8, 15, 4},
            {4, 4, 1}, {4, 5, 2}, {4, 7, 2}, {4, 8, 3}, {12, 12, 1}, {12, 13, 2}, {12, 15, 2}, {15, 15, 1}, {14, 15, 2},
            {16, 1, 1}, {16, 15, 1}, {1, 4, 5}, {1, 5, 6}, {1, 6, Due.NONE}, {1, 15, Due.NONE}, {2, 8, 6}, {2, 9, Due.NONE},
            {5, 14, 6}, {5, 15, Due.NONE}, {6, 15, 6}, {7, 15, 5}};
        for (int[] a : want) {
            due("enough(" + a[0] + ", " + a[1] + ")", x.enough(a[0], a[1]), a[2]);
        }
    }

    public static void main(String[] args) {
        best();
        dearest();
        heard();
        oneBehindAnother();
        behindMoreWords();
        must();
        forgotten();
        likes();
        odds();
        due.end();
    }
}
