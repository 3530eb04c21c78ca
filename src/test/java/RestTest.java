import java.util.List;

/** Promises 27 to 40: draws, voices, sheets, images, what is told. */
public final class RestTest {
    private static final Due due = new Due();

    private static void due(String call, long got, long want) {
        due.due(call, got, want);
    }

    private static void seed() {
        due.promise("promise 27");
        LipsThatFit x = new LipsThatFit();
        int[] any = {0, -1, Due.MOST, Due.LEAST, Due.BEYOND, 7};
        int was = 1;
        for (int v : any) {
            due("seed(" + v + ")", x.seed(v), was);
            was = v;
        }
        due("count(10)", x.count(10), 7);
        due("told(1)", x.told(1), 0);
    }

    private static void voice() {
        due.promise("promises 28 and 29");
        int[] numbers = {0, 1, 2, -5, 1234567, Due.MOST, Due.LEAST, 1431655766};
        for (int kind = 0; kind <= 6; kind++) {
            for (int number : numbers) {
                LipsThatFit x = new LipsThatFit();
                for (int i = 0; i < 6; i++) {
                    x.line(10 * kind + (3 * i + 2) % 10, 0, 1);
                }
                for (int act = 0; act < 4; act++) {
                    int line = (act + kind) % 6;
                    Spoken spoken = Spoken.of(kind, (3 * line + 2) % 10, line);
                    due("KIND " + kind + ", voice(" + line + ", " + act + ", " + number + ")",
                            x.voice(line, act, number), spoken.act(act, number));
                    trace(x, "KIND " + kind + ", act " + act, spoken.trace);
                }
            }
        }
    }

    private static void trace(LipsThatFit x, String of, List<Integer> bodies) {
        due(of + ", count(9)", x.count(9), bodies.size());
        for (int i = 0; i < bodies.size(); i++) {
            due(of + ", trace(" + i + ")", x.trace(i), bodies.get(i));
        }
        due(of + ", trace(" + bodies.size() + ")", x.trace(bodies.size()), Due.NONE);
    }

    private static void wrongVoice() {
        due.promise("promises 28 and 29, wrong inputs");
        LipsThatFit x = new LipsThatFit();
        x.line(65, 0, 1);
        x.voice(0, 3, 1);
        int size = x.count(9);
        due("BODIES are many", size > 8 ? 1 : 0, 1);
        int[][] wrong = {{-1, 0}, {1, 0}, {0, -1}, {0, 4}, {Due.MOST, 0}, {0, Due.LEAST}};
        for (int[] a : wrong) {
            due("voice(" + a[0] + ", " + a[1] + ", 0)", x.voice(a[0], a[1], 0), Due.BEYOND);
        }
        due("THE TRACE stays", x.count(9), size);
        due("trace(0)", x.trace(0), 71);
        int[] none = {-1, size, 40, Due.MOST, Due.LEAST};
        for (int i : none) {
            due("trace(" + i + ")", x.trace(i), Due.NONE);
        }
        due("told(2)", x.told(2), none.length);
        x.become(0, 0);
        due("a number like an ERROR", x.voice(0, 2, Due.BEYOND), Due.BEYOND);
        due("told(1)", x.told(1), wrong.length);
        due("the latest alone", x.count(9), 1);
    }

    private static void sheet() {
        due.promise("promise 30");
        LipsThatFit x = new LipsThatFit();
        int[][] wrong = {{-1, 8, 0}, {4, 8, 0}, {0, 7, 0}, {0, 64, 0}, {0, -8, 0}, {0, 8, 41}, {0, 32, Due.MOST},
            {4, 8, -1}, {-1, 0, 0}, {0, 1, -1}, {Due.MOST, 8, 1}, {0, Due.LEAST, 1}};
        for (int[] a : wrong) {
            due("sheet(" + a[0] + ", " + a[1] + ", " + a[2] + ")", x.sheet(a[0], a[1], a[2]), Due.BEYOND);
        }
        due("sheet(0, 8, -1)", x.sheet(0, 8, -1), Due.STATE);
        due("sheet(3, 32, least)", x.sheet(3, 32, Due.LEAST), Due.STATE);
        due("mouths(0)", x.mouths(0), Due.NONE);
        due("sheet(0, 8, 40)", x.sheet(0, 8, 40), 1);
        due("sheet(1, 16, 0)", x.sheet(1, 16, 0), 1);
        due("sheet(3, 32, 1)", x.sheet(3, 32, 1), 1);
        due("mouths(0)", x.mouths(0), 40);
        due("mouths(1)", x.mouths(1), 0);
        due("mouths(2)", x.mouths(2), Due.NONE);
        due("mouths(3)", x.mouths(3), 1);
        x.put(0, 0, 9);
        due("sheet(0, 8, 40) anew", x.sheet(0, 8, 40), 1);
        due("mouths(0), all 0 anew", x.mouths(0), 40);
        x.put(0, 39, 9);
        due("sheet(0, 8, 41)", x.sheet(0, 8, 41), Due.BEYOND);
        due("sheet(0, 8, -1)", x.sheet(0, 8, -1), Due.STATE);
        due("mouths(0) as it was", x.mouths(0), 39);
        due("sheet(0, 8, 40) again", x.sheet(0, 8, 40), 1);
        due("mouths(0), all 0", x.mouths(0), 40);
        due("sheet(0, 0, -1)", x.sheet(0, 0, -1), 1);
        due("sheet(3, 0, 99)", x.sheet(3, 0, 99), 1);
        due("mouths(0)", x.mouths(0), Due.NONE);
        due("mouths(3)", x.mouths(3), Due.NONE);
        due("told(3)", x.told(3), 3);
    }

    private static void put() {
        due.promise("promise 31");
        LipsThatFit x = new LipsThatFit();
        x.sheet(0, 8, 2);
        x.sheet(1, 16, 2);
        x.sheet(2, 32, 2);
        due("put(-1, 0, 0)", x.put(-1, 0, 0), Due.BEYOND);
        due("put(4, 0, 0)", x.put(4, 0, 0), Due.BEYOND);
        due("put(3, 0, 0)", x.put(3, 0, 0), Due.NONE);
        due("put(3, -1, 0)", x.put(3, -1, 0), Due.NONE);
        int[] wrong = {-1, 2, Due.MOST, Due.LEAST};
        for (int i : wrong) {
            due("put(0, " + i + ", 0)", x.put(0, i, 0), Due.BEYOND);
        }
        // which of the SHEETS hold 0 to 3 then
        int[][] values = {{3, 7}, {4, 0}, {259, 1}, {256, 1}, {65538, 3}, {-256, 1}, {-65536, 3}, {-253, 1},
            {65539 + 256, 1}, {1 << 31, 3}, {Due.MOST, 0}, {-1, 0}};
        for (int[] a : values) {
            for (int sheet = 0; sheet < 3; sheet++) {
                due("put(" + sheet + ", 1, " + a[0] + ")", x.put(sheet, 1, a[0]), 1);
                due("mouths(" + sheet + ")", x.mouths(sheet), (a[1] >> sheet & 1) == 1 ? 2 : 1);
            }
        }
        x.put(0, 1, 259);
        x.mouths(0);
        due("mouthAt(1)", x.mouthAt(1), 3);
    }

    /** What numbers of a SHEET are, as far as they are 0 to 3. */
    private static void holds(LipsThatFit x, int sheet, int... want) {
        due("mouths(" + sheet + ")", x.mouths(sheet), want.length);
        for (int i = 0; i < want.length; i++) {
            due("number " + i, x.mouthAt(i), want[i]);
        }
    }

    private static void move() {
        due.promise("promise 32");
        LipsThatFit x = new LipsThatFit();
        x.sheet(0, 16, 5);
        x.sheet(1, 16, 3);
        x.sheet(2, 8, 5);
        for (int i = 0; i < 5; i++) {
            x.put(0, i, (i + 1) % 4);
        }
        due("move(4, 0, 3, 0, -1)", x.move(4, 0, 3, 0, -1), Due.BEYOND);
        due("move(3, 0, -1, 0, 1)", x.move(3, 0, -1, 0, 1), Due.BEYOND);
        due("move(3, 0, 2, 0, -1)", x.move(3, 0, 2, 0, -1), Due.NONE);
        due("move(0, -1, 3, 0, 1)", x.move(0, -1, 3, 0, 1), Due.NONE);
        due("move(0, -1, 2, 0, 1)", x.move(0, -1, 2, 0, 1), Due.KIND);
        due("move(0, 0, 2, 0, 0)", x.move(0, 0, 2, 0, 0), Due.KIND);
        int[][] wrong = {{0, 0, -1}, {-1, 0, 1}, {0, -1, 1}, {0, 0, 4}, {3, 0, 3}, {0, 1, 3}, {5, 0, 1}, {0, 3, 1},
            {6, 0, 0}, {0, 4, 0}, {-1, 0, 0}, {0, -1, 0}, {Due.MOST, 0, 1}, {0, Due.MOST, 1}, {0, 0, Due.MOST},
            {1, 1, Due.MOST}, {Due.LEAST, 0, 1}, {0, 0, Due.LEAST}, {Due.MOST, Due.MOST, Due.MOST}};
        for (int[] a : wrong) {
            due("move(0, " + a[0] + ", 1, " + a[1] + ", " + a[2] + ")", x.move(0, a[0], 1, a[1], a[2]), Due.BEYOND);
        }
        holds(x, 1, 0, 0, 0);
        due("move(0, 5, 1, 3, 0)", x.move(0, 5, 1, 3, 0), 0);
        due("move(0, 1, 1, 0, 2)", x.move(0, 1, 1, 0, 2), 2);
        holds(x, 1, 2, 3, 0);
        due("move(0, 0, 0, 1, 4)", x.move(0, 0, 0, 1, 4), 4);
        holds(x, 0, 1, 1, 2, 3, 0);
        due("move(0, 2, 0, 0, 3)", x.move(0, 2, 0, 0, 3), 3);
        holds(x, 0, 2, 3, 0, 3, 0);
        due("move(1, 0, 0, 2, 3)", x.move(1, 0, 0, 2, 3), 3);
        holds(x, 0, 2, 3, 2, 3, 0);
    }

    private static void mouths() {
        due.promise("promise 33");
        LipsThatFit x = new LipsThatFit();
        x.mouth(0, 60, 1);
        x.sheet(0, 32, 5);
        int[] numbers = {3, 2, 0, 4, 2};
        for (int i = 0; i < 5; i++) {
            x.put(0, i, numbers[i]);
        }
        due("mouths(0)", x.mouths(0), 3);
        int[] film = {3, 2, 0, 1, 1, 1};
        for (int i = 0; i < film.length; i++) {
            due("mouthAt(" + i + ")", x.mouthAt(i), film[i]);
        }
        x.put(0, 3, -1);
        due("mouths(0), -1", x.mouths(0), 3);
        due("mouths(1)", x.mouths(1), Due.NONE);
        due("mouths(-1)", x.mouths(-1), Due.BEYOND);
        due("mouths(4)", x.mouths(4), Due.BEYOND);
        due("told(1)", x.told(1), 2);
    }

    private static void judge() {
        due.promise("promise 34");
        LipsThatFit x = new LipsThatFit();
        x.sheet(0, 8, 0);
        due("judge(0), neither", x.judge(0), -1);
        x.line(0, 0, 7);
        x.line(10, 0, 5);
        x.line(59, 0, 3);
        due("judge(0), three lack", x.judge(0), 0);
        x.sheet(0, 8, 2);
        due("judge(0), 0 isn't so", x.judge(0), 0);
        x.put(0, 0, 7);
        due("judge(0), 1 isn't so", x.judge(0), 1);
        x.put(0, 1, 15);
        due("judge(0), one lacks", x.judge(0), 2);
        x.sheet(1, 8, 3);
        x.move(0, 0, 1, 0, 2);
        due("judge(1), 2 isn't so", x.judge(1), 2);
        x.put(1, 2, 12);
        due("judge(1), all are", x.judge(1), -1);
        x.sheet(0, 8, 5);
        x.move(1, 0, 0, 0, 3);
        due("judge(0), two are too many", x.judge(0), 3);
        x.put(0, 1, 16);
        due("judge(0), 1 ahead of them", x.judge(0), 1);
        x.put(0, 1, 15);
        x.put(0, 3, 1);
        due("judge(0), one that could be a LINE's is too many", x.judge(0), 3);
        x.line(30, 0, 1);
        due("judge(1), one that is 0 lacks", x.judge(1), 3);
        due("judge(2)", x.judge(2), Due.NONE);
        due("judge(-1)", x.judge(-1), Due.BEYOND);
        due("judge(4)", x.judge(4), Due.BEYOND);
        signs();
    }

    /** A number of 8 bits is -128 to 127, as Java's bytes are; those of 16 and 32 bits hold every OFF. */
    private static void signs() {
        LipsThatFit x = new LipsThatFit();
        x.word(2, 0);
        Due.text(x, 0, "99");
        x.line(10, 0, 1);
        x.say(0, 1, 0, 0, 0);
        for (int sheet = 0; sheet < 3; sheet++) {
            x.sheet(sheet, 8 << sheet, 1);
            x.put(sheet, 0, 198);
            due("judge(" + sheet + ") of 198", x.judge(sheet), sheet == 0 ? 0 : -1);
        }
    }

    /** What comes anew behind an IMAGE that lacked it has nothing of what was there ahead. */
    private static void anew() {
        due.promise("promises 35 and 36, what comes anew");
        LipsThatFit x = new LipsThatFit();
        x.image();
        x.word(12312, 7);
        x.line(55, 3, 4);
        x.wanted(0, 50);
        x.say(0, 1, 0, 0, 0);
        due("restore()", x.restore(), 0);
        due("count(0)", x.count(0), 0);
        due("count(1)", x.count(1), 0);
        due("word(2, 1)", x.word(2, 1), 0);
        due("line(6, 1, 2)", x.line(6, 1, 2), 0);
        due("ofWord(0, 0)", x.ofWord(0, 0), 2);
        due("ofWord(0, 1)", x.ofWord(0, 1), 1);
        int[] want = {0, 6, 1, 2, 0, 0, 2, 0};
        for (int what = 0; what < want.length; what++) {
            due("ofLine(0, " + what + ")", x.ofLine(0, what), want[what]);
        }
        due("said(0, 0)", x.said(0, 0), Due.NONE);
        due("say(0, 1, 0, 0, 0)", x.say(0, 1, 0, 0, 0), 6);
    }

    private static void tell() {
        due.promise("promise 37");
        LipsThatFit x = new LipsThatFit();
        for (int i = 0; i < 20; i++) {
            due("tell(" + i + ")", x.tell(i == 0 ? Due.LEAST : 0), 1 + i);
        }
        due("tell(0) of 21", x.tell(0), Due.FULL);
        due("count(8)", x.count(8), 20);
        due("told(4)", x.told(4), 1);
        x.check();
        due("tell(0) then", x.tell(0), 1);
    }

    private static void check() {
        due.promise("promise 38");
        LipsThatFit x = new LipsThatFit();
        due("check() of none", x.check(), 0);
        x.mouth(1, 18, 2);
        x.mouth(19, 1, 3);
        for (int last = 3; last >= 2; last--) {
            for (int i = 0; i < 20; i++) {
                x.tell(i == 0 ? 0 : i < 19 ? 2 : last);
            }
            due("check(), the last " + last, x.check(), last == 3 ? 0 : 20);
            due("count(8)", x.count(8), 0);
        }
        x.tell(1);
        x.tell(1);
        due("check(), the first", x.check(), 1);
        x.tell(0);
        x.tell(Due.MOST);
        x.tell(7);
        due("check(), the second", x.check(), 2);
        due("check() of none", x.check(), 0);
    }

    private static void count() {
        due.promise("promise 39");
        LipsThatFit x = new LipsThatFit();
        x.word(1, 5);
        x.word(2, 5);
        x.word(2, 5);
        x.line(0, 0, 4);
        x.line(10, 0, 1);
        x.wanted(0, 9);
        x.wanted(1, 8);
        x.say(1, 1, 0, 0, 0);
        x.minutes(1);
        x.matinees(1);
        Due.feed(x, "12345");
        for (int i = 0; i < 6; i++) {
            x.tell(i);
        }
        x.voice(0, 3, 2);
        int z = 1 * 1103515245 + 12345;
        int laughs = (z >>> 8) % 4 != 0 ? 1 : 0;
        z = z * 1103515245 + 12345;
        int[] want = {3, 2, 2, laughs, 4, 12, 1, 5, 6, 4, z};
        for (int what = 0; what < want.length; what++) {
            due("count(" + what + ")", x.count(what), want[what]);
        }
        x.mouth(0, 1, 1);
        due("count(4)", x.count(4), 4 + 10);
        due("count(6)", x.count(6), 2);
        x.seed(Due.NONE);
        due("count(10), like an ERROR", x.count(10), Due.NONE);
        int[] wrong = {-1, 11, Due.MOST, Due.LEAST};
        for (int what : wrong) {
            due("count(" + what + ")", x.count(what), Due.BEYOND);
        }
        due("told(1)", x.told(1), wrong.length);
        due("told(2)", x.told(2), 0);
    }

    private static void told() {
        due.promise("promise 40");
        LipsThatFit x = new LipsThatFit();
        x.line(0, 0, 1);
        x.takes(0, 0, 0);
        x.trace(0);
        x.trace(0);
        x.sheet(0, 8, -1);
        for (int i = 0; i < 24; i++) {
            x.tell(0);
        }
        x.as(0, 1);
        x.as(0, 2);
        x.as(0, 3);
        int[] want = {1, 2, 1, 4, 3};
        for (int k = 1; k <= 5; k++) {
            due("told(" + k + ")", x.told(k), want[k - 1]);
        }
        int[] wrong = {0, 6, -1, Due.MOST, Due.LEAST};
        for (int k : wrong) {
            due("told(" + k + ")", x.told(k), Due.BEYOND);
        }
        due("told(1)", x.told(1), 1 + wrong.length);
    }

    public static void main(String[] args) {
        seed();
        voice();
        wrongVoice();
        sheet();
        put();
        move();
        mouths();
        judge();
        anew();
        tell();
        check();
        count();
        told();
        due.end();
    }
}
