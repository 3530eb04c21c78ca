/** Promises 1 to 12: a new object, the film, words, lines. */
public final class FilmTest {
    private static final Due due = new Due();

    private static void due(String call, long got, long want) {
        due.due(call, got, want);
    }

    private static void newObject() {
        due.promise("promise 1");
        LipsThatFit x = new LipsThatFit();
        for (int what = 0; what <= 9; what++) {
            due("count(" + what + ")", x.count(what), 0);
        }
        due("count(10)", x.count(10), 1);
        for (int i = 0; i < 60; i++) {
            due("mouthAt(" + i + ")", x.mouthAt(i), 0);
        }
        for (int i = 0; i < 16; i++) {
            due("like", x.like(i / 4, i % 4, 0), 0);
        }
        for (int k = 1; k <= 5; k++) {
            due("told(" + k + ")", x.told(k), 0);
        }
        for (int sheet = 0; sheet < 4; sheet++) {
            due("judge(" + sheet + ")", x.judge(sheet), Due.NONE);
        }
        due("law(0)", x.law(0, 0, 1, 0), 5);
        due("law(1)", x.law(1, 4, 0, 0), 1);
        due("trace(0)", x.trace(0), Due.NONE);
        due("restore()", x.restore(), Due.NONE);
        due("ofWord(0, 0)", x.ofWord(0, 0), Due.BEYOND);
        due("ofLine(0, 0)", x.ofLine(0, 0), Due.BEYOND);
        LipsThatFit other = new LipsThatFit();
        other.mouth(0, 60, 1);
        due("mouthAt(0) beside another object", x.mouthAt(0), 0);
    }

    private static void mouth() {
        due.promise("promise 2");
        LipsThatFit x = new LipsThatFit();
        due("mouth(0, 60, 1)", x.mouth(0, 60, 1), 60);
        due("mouth(10, 3, 2)", x.mouth(10, 3, 2), 3);
        due("mouth(59, 1, 3)", x.mouth(59, 1, 3), 1);
        due("mouth(0, 1, 0)", x.mouth(0, 1, 0), 1);
        int[][] wrong = {{-1, 1, 0}, {60, 1, 0}, {0, 0, 0}, {0, -1, 0}, {0, 61, 0}, {59, 2, 0}, {1, 60, 0},
            {0, 1, -1}, {0, 1, 4}, {Due.MOST, Due.MOST, 0}, {1, Due.MOST, 0}, {0, Due.LEAST, 0},
            {Due.LEAST, 5, 0}, {Due.LEAST, Due.LEAST, 0}, {0, 1, Due.MOST}, {0, 1, Due.LEAST}};
        for (int[] a : wrong) {
            due("mouth(" + a[0] + ", " + a[1] + ", " + a[2] + ")", x.mouth(a[0], a[1], a[2]), Due.BEYOND);
        }
        for (int i = 0; i < 60; i++) {
            int want = i == 0 ? 0 : i == 59 ? 3 : i >= 10 && i < 13 ? 2 : 1;
            due("mouthAt(" + i + ")", x.mouthAt(i), want);
        }
        due("told(1)", x.told(1), wrong.length);
    }

    private static void mouthAt() {
        due.promise("promise 3");
        LipsThatFit x = new LipsThatFit();
        x.mouth(0, 1, 2);
        x.mouth(59, 1, 3);
        due("mouthAt(0)", x.mouthAt(0), 2);
        due("mouthAt(1)", x.mouthAt(1), 0);
        due("mouthAt(59)", x.mouthAt(59), 3);
        int[] wrong = {-1, 60, Due.LEAST, Due.MOST};
        for (int tenth : wrong) {
            due("mouthAt(" + tenth + ")", x.mouthAt(tenth), Due.BEYOND);
        }
    }

    private static void word() {
        due.promise("promise 4");
        LipsThatFit x = new LipsThatFit();
        int[] wrong = {0, -1, -123, 4, 9, 10, 20, 301, 14, 41, 141, 411, 33334, 40000, 33330, 111111, 11111111,
            Due.LEAST, Due.MOST};
        for (int syllables : wrong) {
            due("word(" + syllables + ", 0)", x.word(syllables, 0), Due.BEYOND);
        }
        due("word(1, -1)", x.word(1, -1), Due.BEYOND);
        due("word(1, 100)", x.word(1, 100), Due.BEYOND);
        due("count(0)", x.count(0), 0);
        int[] right = {1, 2, 3, 33333, 11111, 12, 312, 2131, 22222, 31};
        for (int i = 0; i < 10; i++) {
            due("word(" + right[i] + ", " + 11 * i + ")", x.word(right[i], 11 * i), i);
        }
        due("word(1, 1) of 11", x.word(1, 1), Due.FULL);
        due("word(4, 1) of 11", x.word(4, 1), Due.BEYOND);
        due("count(0)", x.count(0), 10);
        for (int i = 0; i < 10; i++) {
            due("ofWord(" + i + ", 0)", x.ofWord(i, 0), right[i]);
            due("ofWord(" + i + ", 2)", x.ofWord(i, 2), 11 * i);
        }
    }

    private static void ofWord() {
        due.promise("promise 5");
        LipsThatFit x = new LipsThatFit();
        x.word(3, 0);
        x.word(12312, 99);
        due("ofWord(0, 0)", x.ofWord(0, 0), 3);
        due("ofWord(0, 1)", x.ofWord(0, 1), 1);
        due("ofWord(0, 2)", x.ofWord(0, 2), 0);
        due("ofWord(1, 0)", x.ofWord(1, 0), 12312);
        due("ofWord(1, 1)", x.ofWord(1, 1), 5);
        due("ofWord(1, 2)", x.ofWord(1, 2), 99);
        int[][] wrong = {{-1, 0}, {2, 0}, {0, -1}, {0, 3}, {Due.MOST, 0}, {Due.LEAST, 0}, {0, Due.MOST}};
        for (int[] a : wrong) {
            due("ofWord(" + a[0] + ", " + a[1] + ")", x.ofWord(a[0], a[1]), Due.BEYOND);
        }
    }

    private static void line() {
        due.promise("promise 6");
        LipsThatFit x = new LipsThatFit();
        int[][] wrong = {{-1, 0, 1}, {70, 0, 1}, {0, -1, 1}, {0, 60, 1}, {0, 0, 0}, {0, 0, 16}, {0, 46, 15},
            {0, 59, 2}, {0, 0, -1}, {Due.MOST, 0, 1}, {Due.LEAST, 0, 1}, {0, Due.MOST, 1}, {0, Due.LEAST, 1},
            {0, 0, Due.MOST}, {0, 59, Due.MOST}};
        for (int[] a : wrong) {
            due("line(" + a[0] + ", " + a[1] + ", " + a[2] + ")", x.line(a[0], a[1], a[2]), Due.BEYOND);
        }
        due("count(1)", x.count(1), 0);
        due("line(0, 45, 15)", x.line(0, 45, 15), 0);
        due("line(69, 59, 1)", x.line(69, 59, 1), 1);
        due("line(9, 0, 15)", x.line(9, 0, 15), 2);
        for (int i = 3; i < 6; i++) {
            due("line(" + 10 * i + ", 0, 1)", x.line(10 * i, 0, 1), i);
        }
        due("line(0, 0, 1) of 7", x.line(0, 0, 1), Due.FULL);
        due("line(70, 0, 1) of 7", x.line(70, 0, 1), Due.BEYOND);
        due("count(1)", x.count(1), 6);
        due("ofLine(1, 0)", x.ofLine(1, 0), 6);
        due("ofLine(1, 1)", x.ofLine(1, 1), 9);
        due("ofLine(2, 0)", x.ofLine(2, 0), 0);
        due("ofLine(2, 1)", x.ofLine(2, 1), 9);
    }

    private static void ofLine() {
        due.promise("promise 7");
        LipsThatFit x = new LipsThatFit();
        x.word(12, 20);
        x.line(24, 7, 5);
        x.wanted(0, 50);
        x.say(0, 1, 0, 0, 0);
        int[] want = {2, 4, 7, 5, 50, 1, 5, 30, 1, 2};
        for (int what = 0; what < 10; what++) {
            due("ofLine(0, " + what + ")", x.ofLine(0, what), want[what]);
        }
        int[][] wrong = {{-1, 0}, {1, 0}, {0, -1}, {0, 10}, {Due.MOST, 0}, {Due.LEAST, 0}, {0, Due.LEAST}};
        for (int[] a : wrong) {
            due("ofLine(" + a[0] + ", " + a[1] + ")", x.ofLine(a[0], a[1]), Due.BEYOND);
        }
        x.wanted(0, 20);
        due("LOSS where SENSE is WANTED", x.ofLine(0, 7), 0);
        x.wanted(0, 19);
        due("LOSS where SENSE is more", x.ofLine(0, 7), 0);
        x.wanted(0, 21);
        due("LOSS where SENSE is 1 less", x.ofLine(0, 7), 1);
        x.say(0, 3, 0, 0, 0);
        x.wanted(0, 99);
        due("LOSS of a row", x.ofLine(0, 7), 39);
        x.say(0, 0, 0, 0, 0);
        x.become(0, 0);
        due("NOTICED, OFF 5", x.ofLine(0, 8), 1);
        x.minutes(19);
        due("NOTICED, OFF 5 by MINUTE 19", x.ofLine(0, 8), 1);
        x.minutes(1);
        due("NOTICED, OFF 5 by MINUTE 20", x.ofLine(0, 8), 0);
        Due.text(x, 1, "l-99");
        due("NOTICED, LOSS 99", x.ofLine(0, 8), 0);
        x.wanted(0, 98);
        due("NOTICED, LOSS 98", x.ofLine(0, 8), 1);
    }

    private static void ends() {
        due.promise("promise 7, ENDS");
        // by KIND (with m 4): ENDS of 0 to 5
        int[][] want = {{0, 1, 2, 3, 4, 5}, {0, 3, 6, 9, 12, 15}, {0, 1, 2, 3, 4, 5}, {0, 0, 1, 2, 3, 4},
            {0, 0, 6, 9, 12, 15}, {4, 5, 6, 7, 8, 9}, {0, 0, 0, 1, 1, 2}};
        for (int kind = 0; kind <= 6; kind++) {
            LipsThatFit x = new LipsThatFit();
            x.mouth(0, 60, 3);
            x.word(1, 0);
            x.word(11111, 0);
            for (int v = 1; v <= 5; v++) {
                x.line(10 * kind + 4, 0, v);
                due("KIND " + kind + ", too soon by " + v, x.ofLine(v - 1, 6), want[kind][v]);
                due("KIND " + kind + ", too late by " + (5 - v), x.say(v - 1, 1, 1, 0, 0), want[kind][5 - v]);
            }
            due("KIND " + kind + ", ENDS of 2", x.ofLine(0, 9), want[kind][2]);
            due("KIND " + kind + ", in time", x.say(0, 1, 0, 0, 0), want[kind][0]);
        }
    }

    private static void seen() {
        due.promise("promise 12, SEEN");
        // by TEXTS 0, 1, 7, 9 and KIND (with m 4): SEEN and ENDS of 0
        int[][] want = {{0, 0, 0, 0, 4, 4, 0}, {1, 2, 0, 0, 6, 4, 1}, {7, 14, 3, 0, 18, 4, 1},
            {9, 18, 4, 0, 22, 8, 1}};
        String[] texts = {"0", "1", "7", "9"};
        for (int i = 0; i < texts.length; i++) {
            LipsThatFit x = new LipsThatFit();
            Due.text(x, 0, texts[i]);
            x.word(1, 0);
            x.line(4, 3, 1);
            for (int kind = 0; kind <= 6; kind++) {
                x.become(0, 10 * kind + 4);
                due("KIND " + kind + " by " + texts[i], x.say(0, 1, 0, 0, 0), want[i][kind]);
            }
            x.mouth(3, 1, 3);
            for (int kind = 0; kind <= 6; kind++) {
                x.become(0, 10 * kind + 4);
                due("KIND " + kind + " by " + texts[i] + ", HIDDEN", x.ofLine(0, 6), kind == 5 ? 4 : 0);
            }
        }
    }

    private static void said() {
        due.promise("promise 8");
        LipsThatFit x = new LipsThatFit();
        for (int i = 0; i < 4; i++) {
            x.word(1, 0);
        }
        x.line(0, 0, 1);
        due("said(0, 0) of none", x.said(0, 0), Due.NONE);
        x.say(0, 2, 3, 1, 2);
        due("said(0, 0)", x.said(0, 0), 3);
        due("said(0, 1)", x.said(0, 1), 1);
        due("said(0, 2)", x.said(0, 2), Due.NONE);
        x.say(0, 3, 2, 0, 3);
        due("said(0, 2)", x.said(0, 2), 3);
        int[][] wrong = {{0, -1}, {0, 3}, {1, 0}, {-1, 0}, {0, Due.MOST}, {Due.LEAST, 0}};
        for (int[] a : wrong) {
            due("said(" + a[0] + ", " + a[1] + ")", x.said(a[0], a[1]), Due.BEYOND);
        }
        due("told(2)", x.told(2), 2);
    }

    private static void become() {
        due.promise("promise 9");
        LipsThatFit x = new LipsThatFit();
        x.line(35, 4, 6);
        x.wanted(0, 8);
        due("become(0, 69)", x.become(0, 69), 3);
        due("become(0, 0)", x.become(0, 0), 6);
        due("become(0, 27)", x.become(0, 27), 0);
        int[] want = {2, 7, 4, 6, 8, 0};
        for (int what = 0; what < want.length; what++) {
            due("ofLine(0, " + what + ")", x.ofLine(0, what), want[what]);
        }
        int[][] wrong = {{0, -1}, {0, 70}, {1, 0}, {-1, 0}, {0, Due.LEAST}, {Due.MOST, 0}};
        for (int[] a : wrong) {
            due("become(" + a[0] + ", " + a[1] + ")", x.become(a[0], a[1]), Due.BEYOND);
        }
        due("ofLine(0, 0)", x.ofLine(0, 0), 2);
    }

    private static void as() {
        due.promise("promise 10");
        // by KIND: which KINDS it is of, as bits
        int[] of = {1, 3, 5, 9, 19, 37, 73};
        LipsThatFit x = new LipsThatFit();
        x.line(0, 0, 1);
        int kinds = 0;
        for (int kind = 0; kind <= 6; kind++) {
            x.become(0, 10 * kind + 9 - kind);
            for (int other = 0; other <= 6; other++) {
                boolean is = (of[kind] >> other & 1) == 1;
                kinds += is ? 0 : 1;
                due("KIND " + kind + " as " + other, x.as(0, other), is ? 9 - kind : Due.KIND);
            }
        }
        due("told(5)", x.told(5), kinds);
        int[][] wrong = {{0, -1}, {0, 7}, {1, 0}, {-1, 0}, {0, Due.MOST}, {Due.LEAST, 0}};
        for (int[] a : wrong) {
            due("as(" + a[0] + ", " + a[1] + ")", x.as(a[0], a[1]), Due.BEYOND);
        }
    }

    private static void wanted() {
        due.promise("promise 11");
        LipsThatFit x = new LipsThatFit();
        x.line(0, 0, 1);
        x.line(0, 0, 1);
        due("wanted(0, 99)", x.wanted(0, 99), 0);
        due("wanted(0, 3)", x.wanted(0, 3), 99);
        due("wanted(1, 5)", x.wanted(1, 5), 0);
        int[][] wrong = {{0, -1}, {0, 100}, {2, 0}, {-1, 0}, {0, Due.LEAST}, {Due.MOST, 0}};
        for (int[] a : wrong) {
            due("wanted(" + a[0] + ", " + a[1] + ")", x.wanted(a[0], a[1]), Due.BEYOND);
        }
        due("wanted(0, 0)", x.wanted(0, 0), 3);
        due("ofLine(0, 4)", x.ofLine(0, 4), 0);
        due("ofLine(1, 4)", x.ofLine(1, 4), 5);
    }

    private static void say() {
        due.promise("promise 12");
        LipsThatFit x = new LipsThatFit();
        x.word(123, 0);
        x.word(21, 0);
        x.word(33333, 0);
        x.mouth(10, 1, 1);
        x.mouth(11, 1, 2);
        x.mouth(12, 1, 3);
        x.line(0, 10, 4);
        // CLOSED on ROUND 5, ROUND on WIDE 1, HIDDEN, ends 1 too soon
        due("say(0, 1, 0, 9, 9)", x.say(0, 1, 0, 9, 9), 7);
        // ROUND on ROUND 0, CLOSED on WIDE 5, HIDDEN, ROUND on CLOSED 5, one too late
        due("say(0, 2, 1, 0, -1)", x.say(0, 2, 1, 0, -1), 11);
        // WIDE on ROUND 1, on WIDE 0, HIDDEN, on CLOSED 5, and 11 too many
        due("say(0, 3, 2, 2, 2)", x.say(0, 3, 2, 2, 2), 17);
        due("ofLine(0, 5)", x.ofLine(0, 5), 3);
        int[][] wrong = {{-1, 0, 0, 0, 0}, {1, 0, 0, 0, 0}, {0, -1, 0, 0, 0}, {0, 4, 0, 0, 0}, {0, 1, 3, 0, 0},
            {0, 1, -1, 0, 0}, {0, 2, 0, 3, 0}, {0, 2, 0, -1, 0}, {0, 3, 0, 0, 3}, {0, 3, 0, 0, -1},
            {0, 3, 3, 0, 0}, {0, Due.MOST, 0, 0, 0}, {0, Due.LEAST, 0, 0, 0}, {0, 1, Due.MOST, 0, 0}};
        for (int[] a : wrong) {
            due("say(" + a[0] + ", " + a[1] + ", " + a[2] + ", " + a[3] + ", " + a[4] + ")",
                    x.say(a[0], a[1], a[2], a[3], a[4]), Due.BEYOND);
        }
        due("ofLine(0, 5)", x.ofLine(0, 5), 3);
        due("ofLine(0, 6)", x.ofLine(0, 6), 17);
        due("say(0, 0, 7, 7, 7)", x.say(0, 0, 7, 7, 7), 4);
        due("ofLine(0, 5)", x.ofLine(0, 5), 0);
        Due.text(x, 0, "n");
        due("TENTHS of the LINE from 0 on", x.say(0, 2, 1, 1, 0), 4);
        Due.text(x, 0, "f*10+w");
        due("MOUTHS of THE FILM and the SYLLABLE", x.say(0, 1, 2, 0, 0), 12 + 22 + 2 + 1);
    }

    public static void main(String[] args) {
        newObject();
        mouth();
        mouthAt();
        word();
        ofWord();
        line();
        ofLine();
        ends();
        seen();
        said();
        become();
        as();
        wanted();
        say();
        due.end();
    }
}
