import java.util.Random;

/** Promises 18 to 26: what would be. */
public final class WouldBeTest {
    private static final Due due = new Due();

    private static void due(String call, long got, long want) {
        due.due(call, got, want);
    }

    private static void wrongRows() {
        due.promise("promises 18 to 20, wrong inputs");
        LipsThatFit x = new LipsThatFit();
        x.line(0, 0, 2);
        int[][] wrong = {{-1, 0, 0}, {1, 0, 0}, {0, -1, 0}, {0, 100, 0}, {0, 0, -3}, {0, 0, 3}, {Due.MOST, 0, 0},
            {0, Due.LEAST, 0}, {0, 0, Due.MOST}, {0, 0, Due.LEAST}};
        for (int[] a : wrong) {
            due("best(" + a[0] + ", " + a[1] + ", " + a[2] + ")", x.best(a[0], a[1], a[2]), Due.BEYOND);
            due("dearest(" + a[0] + ", " + a[1] + ", " + a[2] + ")", x.dearest(a[0], a[1], a[2]), Due.BEYOND);
            if (a[1] == 0) {
                due("heard(" + a[0] + ", " + a[2] + ")", x.heard(a[0], a[2]), Due.BEYOND);
            }
        }
        for (int what = -2; what <= 2; what++) {
            due("best of no WORDS", x.best(0, 99, what), Due.NONE);
            due("dearest of no WORDS", x.dearest(0, 99, what), Due.NONE);
            due("heard of no WORDS", x.heard(0, what), what == -2 ? 0 : Due.NONE);
        }
        due("told(2)", x.told(2), 14);
    }

    private static void best() {
        due.promise("promise 18");
        LipsThatFit x = new LipsThatFit();
        x.word(1, 5);
        x.word(11, 10);
        x.word(11, 10);
        x.line(0, 0, 2);
        x.wanted(0, 10);
        due("OFF", x.best(0, 0, -2), 0);
        due("fewer WORDS first", x.best(0, 0, -1), 1);
        due("then the first as a row", x.best(0, 0, 0), 1);
        due("no second one", x.best(0, 0, 1), Due.NONE);
        x.wanted(0, 15);
        due("OFF, if it must be 15", x.best(0, 0, -2), 1);
        due("WORDS, if it must be 15", x.best(0, 0, -1), 2);
        due("0, if it must be 15", x.best(0, 0, 0), 0);
        due("1, if it must be 15", x.best(0, 0, 1), 1);
        due("OFF, if a LOSS of 4 is fine", x.best(0, 4, -2), 1);
        due("OFF, if a LOSS of 5 is fine", x.best(0, 5, -2), 0);
        x.wanted(0, 31);
        due("by none", x.best(0, 0, -2), Due.NONE);
        due("by one", x.best(0, 1, -2), 4);
        due("a WORD can come again", 100 * x.best(0, 1, 0) + 10 * x.best(0, 1, 1) + x.best(0, 1, 2), 111);
        due("nothing is SAID", x.ofLine(0, 5), 0);
    }

    private static void dearest() {
        due.promise("promise 19");
        LipsThatFit x = new LipsThatFit();
        x.word(1, 5);
        x.word(11, 10);
        x.word(11, 10);
        x.line(0, 0, 2);
        x.wanted(0, 99);
        due("LOSS by 0", x.dearest(0, 0, -2), 89);
        due("WORDS by 0", x.dearest(0, 0, -1), 1);
        due("0 by 0", x.dearest(0, 0, 0), 1);
        due("1 by 0", x.dearest(0, 0, 1), Due.NONE);
        due("LOSS by 1", x.dearest(0, 1, -2), 84);
        due("0 by 1", x.dearest(0, 1, 0), 0);
        due("1 by 1", x.dearest(0, 1, 1), 1);
        due("LOSS by 3", x.dearest(0, 3, -2), 74);
        due("LOSS by 4", x.dearest(0, 4, -2), 69);
        due("WORDS by 4", x.dearest(0, 4, -1), 3);
        x.mouth(0, 2, 1);
        due("by none", x.dearest(0, 4, -2), Due.NONE);
        due("by one", x.dearest(0, 6, -2), 94);
    }

    private static void heard() {
        due.promise("promise 20");
        LipsThatFit x = new LipsThatFit();
        x.word(1, 0);
        x.word(12, 0);
        x.word(2, 0);
        x.word(22, 0);
        x.word(122, 0);
        x.line(0, 0, 3);
        x.mouth(1, 2, 1);
        // 1 22 | 12 2 | 122 | 1 2 2
        due("how many", x.heard(0, -2), 4);
        due("the first has", x.heard(0, -1), 1);
        due("the first", x.heard(0, 0), 4);
        due("no second", x.heard(0, 1), Due.NONE);
        x.mouth(2, 1, 3);
        // 1 2 1 | 12 1 besides
        due("how many, one HIDDEN", x.heard(0, -2), 6);
        x.mouth(0, 3, 2);
        due("how many, WIDE", x.heard(0, -2), 0);
        due("no first", x.heard(0, -1), Due.NONE);
        x.mouth(0, 3, 3);
        x.line(0, 0, 15);
        due("too long", x.heard(1, -2), 0);
    }

    /** All rows are SAID one after another, on objects of their own. */
    private static void anyRows() {
        due.promise("promises 18 to 20, any rows");
        Random random = new Random(2);
        String[] texts = {"", "w*n+f", "(f-w)*(f-w)*3+n%3", "!(f=w)*40"};
        for (int round = 0; round < 300; round++) {
            int words = 1 + random.nextInt(5);
            long seed = random.nextLong();
            LipsThatFit asked = world(new Random(seed), words, texts);
            String[] digits = new String[words];
            for (int i = 0; i < words; i++) {
                digits[i] = String.valueOf(asked.ofWord(i, 0));
            }
            String film = filmOf(asked);
            LipsThatFit told = null;
            int v = random.nextInt(4) == 0 ? random.nextInt(100) : random.nextInt(20);
            int[] best = {0, 0, 0, 0, 0};
            int[] dearest = {0, 0, 0, 0, 0};
            int[] heard = {0, 0, 0, 0, 0};
            int calls = 0;
            for (int n = 1; n <= 3; n++) {
                for (int i = 0; i < Math.pow(words, n); i++) {
                    if (calls-- == 0) {
                        told = world(new Random(seed), words, texts);
                        calls = 200;
                    }
                    int[] row = rowOf(i, n, words);
                    int off = told.say(0, n, row[0], row[1], row[2]);
                    int loss = told.ofLine(0, 7);
                    take(best, loss <= v, off, n, row);
                    take(dearest, off <= v, loss, n, row);
                    take(heard, isHeard(film, digits, row, n), 0, n, row);
                }
            }
            compare("best", best, v, what -> asked.best(0, v, what));
            compare("dearest", dearest, v, what -> asked.dearest(0, v, what));
            due("heard, how many, round " + round, asked.heard(0, -2), heard[0]);
            for (int what = -1; what <= 2; what++) {
                due("heard, " + what, asked.heard(0, what), found(heard, what));
            }
        }
    }

    private interface Asked {
        int of(int what);
    }

    private static LipsThatFit world(Random random, int words, String[] texts) {
        LipsThatFit x = new LipsThatFit();
        for (int i = 0; i < 60; i += 2) {
            x.mouth(i, 2, random.nextInt(4));
        }
        Due.text(x, 0, texts[random.nextInt(texts.length)]);
        for (int i = 0; i < words; i++) {
            int digits = 0;
            for (int s = 0; s <= random.nextInt(5); s++) {
                digits = 10 * digits + 1 + random.nextInt(3);
            }
            x.word(digits, random.nextInt(60));
        }
        x.line(random.nextInt(70), random.nextInt(46), 1 + random.nextInt(random.nextBoolean() ? 4 : 15));
        x.wanted(0, random.nextInt(100));
        return x;
    }

    private static int[] rowOf(int i, int n, int words) {
        int[] row = new int[3];
        for (int k = n - 1, rest = i; k >= 0; k--, rest /= words) {
            row[k] = rest % words;
        }
        return row;
    }

    /** found: how many rows; how many WORDS, which OFF or LOSS, and which WORDS the one to be answered has. */
    private static void take(int[] found, boolean may, int worth, int n, int[] row) {
        if (!may) {
            return;
        }
        found[0]++;
        if (found[0] == 1 || worth < found[2]) {
            found[1] = n;
            found[2] = worth;
            found[3] = row[0] + 10 * row[1] + 100 * row[2];
        }
    }

    private static int found(int[] found, int what) {
        if (found[0] == 0 || what >= found[1]) {
            return Due.NONE;
        }
        int row = found[3];
        return what == -2 ? found[2] : what == -1 ? found[1]
                : what == 0 ? row % 10 : what == 1 ? row / 10 % 10 : row / 100;
    }

    private static void compare(String call, int[] found, int v, Asked asked) {
        for (int what = -2; what <= 2; what++) {
            due(call + " by " + v + ", " + what, asked.of(what), found(found, what));
        }
    }

    /** MOUTHS of the TENTHS of LINE 0, each and 1 as a digit. */
    private static String filmOf(LipsThatFit x) {
        StringBuilder film = new StringBuilder();
        int begin = x.ofLine(0, 2);
        int lasts = x.ofLine(0, 3);
        for (int i = 0; i < lasts; i++) {
            film.append(1 + x.mouthAt(begin + i));
        }
        return film.toString();
    }

    private static boolean isHeard(String film, String[] digits, int[] row, int n) {
        StringBuilder syllables = new StringBuilder();
        for (int i = 0; i < n; i++) {
            syllables.append(digits[row[i]]);
        }
        if (syllables.length() != film.length()) {
            return false;
        }
        for (int i = 0; i < film.length(); i++) {
            if (film.charAt(i) != '4' && film.charAt(i) != syllables.charAt(i)) {
                return false;
            }
        }
        return true;
    }

    private static void mostWords() {
        due.promise("promises 18 to 20, ten WORDS");
        LipsThatFit x = new LipsThatFit();
        for (int i = 0; i < 9; i++) {
            x.word(11111, i);
        }
        x.word(33333, 99);
        x.line(0, 45, 15);
        x.mouth(45, 15, 2);
        x.wanted(0, 99);
        due("heard(0, -2)", x.heard(0, -2), 1);
        due("heard(0, 2)", x.heard(0, 2), 9);
        due("best(0, 0, -2)", x.best(0, 0, -2), 0);
        due("best(0, 0, 0)", x.best(0, 0, 0), 9);
        due("dearest(0, 10, -2)", x.dearest(0, 10, -2), 0);
        due("dearest(0, 10, -1)", x.dearest(0, 10, -1), 1);
        x.mouth(45, 15, 3);
        due("heard(0, -2), all HIDDEN", x.heard(0, -2), 1000);
    }

    private static void must() {
        due.promise("promise 21");
        LipsThatFit x = new LipsThatFit();
        x.line(0, 45, 15);
        due("must(0), all CLOSED", x.must(0), 0x7fff);
        x.mouth(46, 1, 1);
        x.mouth(47, 1, 2);
        x.mouth(48, 1, 3);
        due("must(0)", x.must(0), 0x7fff & ~(2 | 8));
        x.become(0, 20);
        due("must(0), FAR", x.must(0), 0x7fff & ~(2 | 4 | 8));
        x.become(0, 30);
        due("must(0), TURNED", x.must(0), 0);
        x.become(0, 60);
        due("must(0), BREATHED", x.must(0), 0x7fff & ~(2 | 8));
        x.become(0, 41);
        due("must(0), LAUGHED", x.must(0), 0x7fff & ~8);
        x.become(0, 0);
        Due.text(x, 0, "n>2&w=1");
        due("must(0) by a TEXT", x.must(0), 0x7fff & ~15);
        due("must(1)", x.must(1), Due.BEYOND);
        due("must(-1)", x.must(-1), Due.BEYOND);
        due("must(most)", x.must(Due.MOST), Due.BEYOND);
    }

    private static void forgotten() {
        due.promise("promise 22");
        LipsThatFit x = new LipsThatFit();
        x.line(0, 0, 5);
        due("OFF of 5", x.forgotten(0), 20);
        x.minutes(3);
        due("3 MINUTES on", x.forgotten(0), 17);
        x.minutes(17);
        due("not NOTICED now", x.forgotten(0), 0);
        Due.text(x, 1, "t<520");
        due("by 500", x.forgotten(0), 500);
        Due.text(x, 1, "t<521");
        due("not by 500", x.forgotten(0), Due.NONE);
        for (int i = 0; i < 19; i++) {
            x.minutes(500);
        }
        Due.text(x, 1, "o&t-9999-1+l");
        due("beyond 9999", x.forgotten(0), 10000 - 9520);
        x.wanted(0, 5);
        due("by LOSS", x.forgotten(0), 9995 - 9520);
        due("MINUTE stays", x.count(2), 9520);
        due("forgotten(1)", x.forgotten(1), Due.BEYOND);
        due("forgotten(-1)", x.forgotten(-1), Due.BEYOND);
        due("forgotten(least)", x.forgotten(Due.LEAST), Due.BEYOND);
    }

    private static void like() {
        due.promise("promise 23");
        LipsThatFit x = new LipsThatFit();
        for (int i = 0; i < 16; i++) {
            due("like", x.like(i / 4, i % 4, 99 - i), 0);
        }
        int[][] wrong = {{-1, 0, 0}, {4, 0, 0}, {0, -1, 0}, {0, 4, 0}, {0, 0, -1}, {0, 0, 100}, {Due.MOST, 0, 0},
            {0, Due.LEAST, 0}, {0, 0, Due.MOST}};
        for (int[] a : wrong) {
            due("like(" + a[0] + ", " + a[1] + ", " + a[2] + ")", x.like(a[0], a[1], a[2]), Due.BEYOND);
        }
        for (int i = 0; i < 16; i++) {
            due("like", x.like(i / 4, i % 4, 0), 99 - i);
        }
    }

    private static void cast() {
        due.promise("promise 24");
        LipsThatFit x = new LipsThatFit();
        for (int face = 0; face < 4; face++) {
            due("cast(" + face + ") at first", x.cast(face), face);
        }
        int[] wrong = {-2, 4, Due.MOST, Due.LEAST};
        for (int what : wrong) {
            due("cast(" + what + ")", x.cast(what), Due.BEYOND);
        }
        Random random = new Random(3);
        for (int round = 0; round < 60; round++) {
            LipsThatFit y = new LipsThatFit();
            int[] likes = new int[16];
            for (int i = 0; i < 16; i++) {
                likes[i] = random.nextInt(round % 2 == 0 ? 100 : 4);
                y.like(i / 4, i % 4, likes[i]);
            }
            int[] want = {-1, 0};
            casts(likes, 0, 0, 0, 0, want);
            due("cast(-1)", y.cast(-1), want[0]);
            for (int face = 0; face < 4; face++) {
                due("cast(" + face + ")", y.cast(face), want[1] / (int) Math.pow(10, 3 - face) % 10);
            }
        }
    }

    private static void casts(int[] likes, int face, int taken, int sum, int row, int[] want) {
        if (face == 4) {
            if (sum > want[0]) {
                want[0] = sum;
                want[1] = row;
            }
            return;
        }
        for (int voice = 0; voice < 4; voice++) {
            if ((taken >> voice & 1) == 0) {
                casts(likes, face + 1, taken | 1 << voice, sum + likes[4 * face + voice], 10 * row + voice, want);
            }
        }
    }

    private static void takes() {
        due.promise("promise 25");
        LipsThatFit x = new LipsThatFit();
        long[][] want = {{1, 0, 0, 1}, {16, 0, 0, 1}, {16, 1, 1, 1}, {16, 6, 1, 1}, {1, 1, 1, 16}, {8, 1, 1, 2},
            {8, 6, 63, 64}, {4, 2, 7, 16}, {12, 1, 3, 4}, {3, 6, 11950407, 16777216}, {15, 6, 16777215, 16777216},
            {10, 2, 55, 64}};
        for (long[] a : want) {
            due("takes(" + a[0] + ", " + a[1] + ", 0)", x.takes((int) a[0], (int) a[1], 0), a[2]);
            due("takes(" + a[0] + ", " + a[1] + ", 1)", x.takes((int) a[0], (int) a[1], 1), a[3]);
        }
        int[][] wrong = {{0, 1, 0}, {17, 1, 0}, {1, -1, 0}, {1, 7, 0}, {1, 1, -1}, {1, 1, 2}, {Due.MOST, 1, 0},
            {Due.LEAST, 1, 0}, {1, Due.MOST, 0}, {1, 1, Due.LEAST}};
        for (int[] a : wrong) {
            due("takes(" + a[0] + ", " + a[1] + ", " + a[2] + ")", x.takes(a[0], a[1], a[2]), Due.BEYOND);
        }
        due("told(1)", x.told(1), wrong.length);
    }

    private static void enough() {
        due.promise("promise 26");
        LipsThatFit x = new LipsThatFit();
        for (int p = 1; p <= 16; p++) {
            for (int a = 1; a <= 15; a++) {
                int want = Due.NONE;
                for (int n = 6; n >= 1; n--) {
                    want = 1 - Math.pow((16 - p) / 16.0, n) >= a / 16.0 ? n : want;
                }
                due("enough(" + p + ", " + a + ")", x.enough(p, a), want);
            }
        }
        int[][] wrong = {{0, 1}, {17, 1}, {1, 0}, {1, 16}, {Due.MOST, 1}, {1, Due.LEAST}};
        for (int[] a : wrong) {
            due("enough(" + a[0] + ", " + a[1] + ")", x.enough(a[0], a[1]), Due.BEYOND);
        }
    }

    public static void main(String[] args) {
        wrongRows();
        best();
        dearest();
        heard();
        anyRows();
        mostWords();
        must();
        forgotten();
        like();
        cast();
        takes();
        enough();
        due.end();
    }
}
