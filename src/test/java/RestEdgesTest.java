/** Terms 3 (voices) and 4 and promises 27 to 40, at their bounds: voices, SHEETS, what waits, counts. */
public final class RestEdgesTest {
    private static final Due due = new Due();

    private static final int[] BITS = {8, 16, 32};

    private static void due(String call, long got, long want) {
        due.due(call, got, want);
    }

    private static void seeds() {
        due.promise("promise 27: z becomes v: what it was (any number)");
        LipsThatFit x = new LipsThatFit();
        int was = 1;
        for (int v : new int[] {Due.LEAST, Due.LEAST + 1, Due.KIND, Due.BEYOND, Due.LOW, -1, 0, 1, Due.MOST - 1,
            Due.MOST, 1}) {
            due("seed(" + v + ")", x.seed(v), was);
            due("count(10)", x.count(10), v);
            was = v;
        }
        for (int k = 1; k <= 5; k++) {
            due("told(" + k + ")", x.told(k), 0);
        }
    }

    /** A VOICE OF KINDS of LINE n, which is of a KIND with m. */
    private static void voice(int km, int n, int act, int v, int want, int... trace) {
        LipsThatFit x = new LipsThatFit();
        for (int i = 0; i <= n; i++) {
            x.line(i == n ? km : 69, 0, 1);
        }
        String call = "voice(" + n + ", " + act + ", " + v + ") of " + km;
        due(call, x.voice(n, act, v), want);
        due("count(9) behind " + call, x.count(9), trace.length);
        for (int i = 0; i < trace.length; i++) {
            due("trace(" + i + ") behind " + call, x.trace(i), trace[i]);
        }
        due("trace(-1)", x.trace(-1), Due.NONE);
        due("trace(" + trace.length + ")", x.trace(trace.length), Due.NONE);
        due("told(1) and told(2)", 10 * x.told(1) + x.told(2), 2);
    }

    private static void voices() {
        due.promise("Terms 3: VOICES: n is the number, m as told; ints that go round");
        int most = Due.MOST;
        int least = Due.LEAST;
        // LINE: x + n, fits * 2, x - m, says ^ ends
        voice(0, 0, 0, most, most, 10);
        voice(0, 5, 0, most, least + 4, 10);
        voice(9, 5, 0, -5, 0, 10);
        voice(9, 5, 1, 0x3fffffff, least + 8, 11, 10);
        voice(9, 0, 1, least, 0, 11, 10);
        voice(9, 5, 2, least, most - 8, 12);
        voice(0, 5, 2, least, least, 12);
        voice(9, 5, 3, 4, 18 ^ -5, 13, 11, 10, 12);
        // NEAR: fits three times
        voice(10, 0, 0, 0x40000000, -0x40000000, 20, 10);
        voice(19, 5, 1, 1, 36, 11, 20, 10);
        voice(19, 5, 2, 1, -8, 12);
        // FAR: says less ends of 1
        voice(29, 5, 1, 1, 12 + 8, 30, 11, 10, 12);
        voice(29, 5, 1, least, 10 + 8, 30, 11, 10, 12);
        voice(20, 0, 3, 3, 5 ^ 3, 13, 30, 11, 10, 12, 12);
        // TURNED: ends turned round
        voice(30, 0, 2, least, least, 40, 12);
        voice(39, 5, 2, 1, 8, 40, 12);
        voice(39, 5, 3, 1, 12 ^ 8, 13, 11, 10, 40, 12);
        // LAUGHED: tells less fits of 2, which is NEAR's
        voice(49, 5, 3, 1, (36 ^ -8) - 21, 50, 13, 11, 20, 10, 12, 20, 10);
        voice(49, 5, 0, 1, 18, 20, 10);
        // NAMED: says of one more, FAR's
        voice(59, 5, 1, 1, 14 + 8, 60, 30, 11, 10, 12);
        voice(59, 5, 1, most, 10 + 8, 60, 30, 11, 10, 12);
        voice(59, 5, 2, 1, -8, 12);
        voice(59, 5, 3, 1, 22 ^ -8, 13, 60, 30, 11, 10, 12, 12);
        // BREATHED: ends ^ n, TURNED's; says less tells, LINE's
        voice(69, 5, 2, 1, 8 ^ 5, 70, 40, 12);
        voice(69, 5, 2, 4, 5 ^ 5, 70, 40, 12);
        voice(69, 5, 3, 1, 12 - (12 ^ 8 ^ 5), 71, 11, 10, 13, 11, 10, 70, 40, 12);
        voice(60, 0, 2, least, least, 70, 40, 12);
        due.promise("Terms 3: THE TRACE: of the latest voice()");
        LipsThatFit x = new LipsThatFit();
        due("trace(0) at first", x.trace(0), Due.NONE);
        x.line(69, 0, 1);
        x.voice(0, 3, 1);
        due("count(9)", x.count(9), 9);
        x.voice(0, 0, 1);
        due("count(9) behind a shorter one", x.count(9), 1);
        due("trace(0)", x.trace(0), 10);
        due("trace(1)", x.trace(1), Due.NONE);
    }

    private static void sheets() {
        due.promise("Terms 4: SHEETS 0 .. 3, at most 40 numbers, or missing (as at first)");
        for (int sheet = 0; sheet <= 3; sheet++) {
            for (int bits : BITS) {
                for (int n : new int[] {0, 1, 2, 39, 40}) {
                    LipsThatFit x = new LipsThatFit();
                    x.mouth(0, 60, 2);
                    due("mouths(" + sheet + ") at first", x.mouths(sheet), Due.NONE);
                    due("sheet(" + sheet + ", " + bits + ", " + n + ")", x.sheet(sheet, bits, n), 1);
                    due("put(" + sheet + ", -1, 1)", x.put(sheet, -1, 1), Due.BEYOND);
                    due("put(" + sheet + ", " + n + ", 1)", x.put(sheet, n, 1), Due.BEYOND);
                    due("mouths(" + sheet + ") of " + n, x.mouths(sheet), n);
                    for (int i = 0; i < 60; i++) {
                        due("mouthAt(" + i + ")", x.mouthAt(i), i < n ? 0 : 2);
                    }
                    if (n > 0) {
                        due("put(" + sheet + ", " + (n - 1) + ", 3)", x.put(sheet, n - 1, 3), 1);
                        x.mouths(sheet);
                        due("mouthAt(" + (n - 1) + ")", x.mouthAt(n - 1), 3);
                    }
                    due("sheet(" + sheet + ", 0, -7)", x.sheet(sheet, 0, -7), 1);
                    due("mouths(" + sheet + "), missing again", x.mouths(sheet), Due.NONE);
                    due("put(" + sheet + ", 0, 1), missing again", x.put(sheet, 0, 1), Due.NONE);
                }
            }
        }
    }

    private static void lowestBits() {
        due.promise("promise 31: number i of a SHEET becomes v (its lowest bits)");
        LipsThatFit x = new LipsThatFit();
        // v, and what it is by 8, 16 and 32 bits, if that is 0 to 3 (else 9)
        int[][] want = {{0, 0, 0, 0}, {3, 3, 3, 3}, {4, 9, 9, 9}, {-1, 9, 9, 9}, {127, 9, 9, 9}, {128, 9, 9, 9},
            {255, 9, 9, 9}, {256, 0, 9, 9}, {257, 1, 9, 9}, {-256, 0, 9, 9}, {-253, 3, 9, 9}, {32767, 9, 9, 9},
            {32768, 0, 9, 9}, {65535, 9, 9, 9}, {65536, 0, 0, 9}, {65538, 2, 2, 9}, {-65536, 0, 0, 9},
            {Due.LEAST, 0, 0, 9}, {Due.LEAST + 3, 3, 3, 9}, {Due.MOST, 9, 9, 9}};
        for (int sheet = 0; sheet < 3; sheet++) {
            x.sheet(sheet, BITS[sheet], 2);
        }
        for (int[] row : want) {
            for (int sheet = 0; sheet < 3; sheet++) {
                int number = row[1 + sheet];
                String call = "put(" + sheet + ", 1, " + row[0] + ")";
                due(call, x.put(sheet, 1, row[0]), 1);
                due("mouths(" + sheet + ") behind " + call, x.mouths(sheet), number == 9 ? 1 : 2);
                if (number != 9) {
                    due("mouthAt(1) behind " + call, x.mouthAt(1), number);
                }
            }
        }
        due.promise("promise 34: numbers by their bits, as OFF");
        LipsThatFit y = new LipsThatFit();
        Due.text(y, 0, "99");
        y.word(1, 0);
        y.line(0, 0, 1);
        y.line(10, 0, 1);
        y.line(0, 0, 15);
        y.line(10, 0, 15);
        y.say(0, 1, 0, 0, 0);
        y.say(1, 1, 0, 0, 0);
        // 99, 198, 15, 45
        for (int sheet = 0; sheet < 3; sheet++) {
            y.sheet(sheet, BITS[sheet], 4);
            int[] offs = {99, 198, 15, 45};
            for (int i = 0; i < 4; i++) {
                y.put(sheet, i, offs[i]);
            }
        }
        due("judge(1), 16 bits", y.judge(1), -1);
        due("judge(2), 32 bits", y.judge(2), -1);
        y.put(1, 0, 99 + 65536);
        due("judge(1), 65536 more", y.judge(1), -1);
        y.put(2, 0, 99 + 65536);
        due("judge(2), 65536 more", y.judge(2), 0);
        y.put(1, 3, 45 + 256);
        due("judge(1), 256 more", y.judge(1), 3);
    }

    /** Numbers of a SHEET, all of them 0 to 3. */
    private static void holds(String call, LipsThatFit x, int sheet, int... want) {
        due("mouths(" + sheet + ") behind " + call, x.mouths(sheet), want.length);
        for (int i = 0; i < want.length; i++) {
            due("number " + i + " behind " + call, x.mouthAt(i), want[i]);
        }
    }

    /** SHEETS 0 and 1 of five and three numbers, of so many bits. */
    private static LipsThatFit twoSheets(int bits) {
        LipsThatFit x = new LipsThatFit();
        x.sheet(0, bits, 5);
        x.sheet(1, bits, 3);
        int[] numbers = {1, 2, 3, 0, 2};
        for (int i = 0; i < 5; i++) {
            x.put(0, i, numbers[i]);
        }
        for (int i = 0; i < 3; i++) {
            x.put(1, i, 3 - i);
        }
        return x;
    }

    private static void moves() {
        due.promise("promise 32: n numbers come to another one (or the same), as they all were: n");
        // SHEET, i, other, j, n; then what SHEETS 0 and 1 hold
        int[][] moves = {{0, 0, 1, 0, 0}, {0, 5, 1, 3, 0}, {0, 5, 0, 5, 0}, {1, 3, 0, 5, 0}, {0, 0, 1, 0, 3},
            {0, 2, 1, 0, 3}, {0, 4, 1, 2, 1}, {1, 0, 0, 0, 3}, {1, 0, 0, 2, 3}, {1, 2, 0, 4, 1}, {0, 0, 0, 0, 5},
            {0, 0, 0, 1, 4}, {0, 1, 0, 0, 4}, {0, 0, 0, 2, 3}, {0, 2, 0, 0, 3}, {0, 0, 0, 4, 1}, {0, 4, 0, 0, 1}};
        int[] first = {1, 2, 3, 0, 2};
        int[] second = {3, 2, 1};
        for (int[] a : moves) {
            int[][] want = {first.clone(), second.clone()};
            int[] from = a[0] == 0 ? first : second;
            for (int i = 0; i < a[4]; i++) {
                want[a[2]][a[3] + i] = from[a[1] + i];
            }
            for (int bits : BITS) {
                LipsThatFit x = twoSheets(bits);
                String call = "move(" + a[0] + ", " + a[1] + ", " + a[2] + ", " + a[3] + ", " + a[4] + ") of " + bits;
                due(call, x.move(a[0], a[1], a[2], a[3], a[4]), a[4]);
                holds(call, x, 0, want[0]);
                holds(call, x, 1, want[1]);
            }
        }
        due.promise("promise 32: n of 40");
        LipsThatFit x = new LipsThatFit();
        x.sheet(2, 8, 40);
        x.sheet(3, 8, 40);
        x.put(2, 39, 3);
        due("move(2, 0, 3, 0, 40)", x.move(2, 0, 3, 0, 40), 40);
        due("move(2, 0, 3, 0, 41)", x.move(2, 0, 3, 0, 41), Due.BEYOND);
        due("mouths(3)", x.mouths(3), 40);
        due("mouthAt(39)", x.mouthAt(39), 3);
    }

    private static void mouths() {
        due.promise("promise 33: how many, up to the first that is not 0 to 3");
        for (int bits : BITS) {
            for (int at = 0; at <= 5; at++) {
                for (int bad : new int[] {-1, 4, 127, -128}) {
                    LipsThatFit x = new LipsThatFit();
                    x.mouth(0, 60, 1);
                    x.sheet(0, bits, 5);
                    for (int i = 0; i < 5; i++) {
                        x.put(0, i, i == at ? bad : 3);
                    }
                    due("mouths(0), " + bad + " at " + at, x.mouths(0), at);
                    for (int i = 0; i < 7; i++) {
                        due("mouthAt(" + i + ")", x.mouthAt(i), i < at ? 3 : 1);
                    }
                }
            }
        }
        LipsThatFit x = new LipsThatFit();
        x.sheet(0, 32, 4);
        for (int i = 0; i < 4; i++) {
            x.put(0, i, i);
        }
        holds("0, 1, 2, 3", x, 0, 0, 1, 2, 3);
    }

    private static void judges() {
        due.promise("promise 34: one that lacks, or is too many, too; -1: all are");
        for (int bits : BITS) {
            for (int lines = 0; lines <= 6; lines++) {
                for (int n = 0; n <= 8; n++) {
                    LipsThatFit x = new LipsThatFit();
                    x.sheet(0, bits, n);
                    for (int i = 0; i < lines; i++) {
                        x.line(0, 0, 1 + i);
                    }
                    for (int i = 0; i < n; i++) {
                        x.put(0, i, 1 + i);
                    }
                    int all = n == lines ? -1 : Math.min(n, lines);
                    due("judge(0) of " + n + " by " + lines + " LINES", x.judge(0), all);
                    for (int i = Math.min(n, lines) - 1; i >= 0; i--) {
                        x.put(0, i, i % 2 == 0 ? i : i + 2);
                        due("judge(0), " + i + " isn't so", x.judge(0), i);
                    }
                }
            }
        }
    }

    private static void waiting() {
        due.promise("promise 37: one more number waits: how many. FULL: 20 wait");
        LipsThatFit x = new LipsThatFit();
        for (int round = 0; round < 2; round++) {
            for (int i = 1; i <= 20; i++) {
                due("tell, " + i, x.tell(0), i);
                due("count(8)", x.count(8), i);
            }
            due("tell, 21", x.tell(9), Due.FULL);
            due("count(8)", x.count(8), 20);
            due("check()", x.check(), 0);
            due("count(8)", x.count(8), 0);
        }
        due.promise("promise 38: 0; else 1 and the place (from 0) of the first that isn't so");
        for (int size = 0; size <= 20; size++) {
            for (int bad = 0; bad <= size; bad++) {
                LipsThatFit y = new LipsThatFit();
                y.mouth(1, 59, 2);
                y.mouth(19, 1, 3);
                for (int i = 0; i < size; i++) {
                    int mouth = i == 0 ? 0 : i == 19 ? 3 : 2;
                    y.tell(i < bad || bad == size ? mouth : mouth + 1);
                }
                due("check() of " + size + ", " + bad + " isn't so", y.check(), bad == size ? 0 : 1 + bad);
                due("none wait then", y.count(8), 0);
                due("check() of none", y.check(), 0);
            }
        }
        for (int v : new int[] {Due.LEAST, -1, 1, 256, 65536, Due.MOST}) {
            LipsThatFit y = new LipsThatFit();
            y.tell(v);
            due("check() of " + v, y.check(), 1);
        }
        due.promise("promise 38: the order in which they were told");
        LipsThatFit y = new LipsThatFit();
        y.mouth(1, 1, 1);
        y.mouth(2, 1, 2);
        y.tell(0);
        y.tell(1);
        y.tell(2);
        due("check() of 0, 1, 2", y.check(), 0);
        y.tell(2);
        y.tell(1);
        y.tell(0);
        due("check() of 2, 1, 0", y.check(), 1);
    }

    private static void counts() {
        due.promise("promise 39: of an object that is empty, and of one that is full");
        LipsThatFit x = new LipsThatFit();
        int[] none = {0, 0, 0, 0, 0, 0, 0, 0, 0, 0, 1};
        for (int what = 0; what <= 10; what++) {
            due("count(" + what + ")", x.count(what), none[what]);
        }
        for (int i = 0; i < 10; i++) {
            x.word(11111, 9);
        }
        for (int i = 0; i < 6; i++) {
            x.line(10, 45, 1);
            x.wanted(i, 99);
            x.say(i, 3, 0, 0, 0);
        }
        Due.text(x, 0, "99");
        for (int i = 0; i < 19; i++) {
            x.minutes(500);
        }
        x.minutes(499);
        for (int i = 0; i < 20; i++) {
            x.tell(i);
        }
        Due.feed(x, "+".repeat(50));
        // in one TENTH 198; too late by 14; NOTICED without a TEXT above 1002
        int[] full = {10, 6, 9999, 0, 6 * (198 + 42), 6 * (99 - 27), 0, 50, 20, 0, 1};
        for (int what = 0; what <= 10; what++) {
            due("count(" + what + ")", x.count(what), full[what]);
        }
        due("count(11)", x.count(11), Due.BEYOND);
        due("count(-1)", x.count(-1), Due.BEYOND);
        due.promise("Terms 1: the most that a LINE is OFF");
        LipsThatFit y = new LipsThatFit();
        Due.text(y, 0, "9999");
        y.word(11111, 0);
        y.line(49, 45, 15);
        due("say(0, 3, 0, 0, 0)", y.say(0, 3, 0, 0, 0), 15 * (2 * 99 + 9));
        due("count(4)", y.count(4), 3105);
        due("count(6) by 3105", y.count(6), 1);
    }

    private static void told() {
        due.promise("promise 40: how many acts have answered an ERROR LOW - k");
        LipsThatFit x = new LipsThatFit();
        x.line(0, 0, 1);
        Act[] errors = {y -> y.mouthAt(60), y -> y.said(0, 0), y -> y.sheet(0, 8, -1),
            y -> y.feed(0, 8), y -> y.as(0, 1)};
        for (int i = 0; i < 6; i++) {
            x.feed(0, 8);
        }
        int[] want = new int[6];
        for (int i = 0; i < 15; i++) {
            int k = 1 + i * 7 % 5;
            due("an ERROR LOW - " + k, errors[k - 1].on(x), Due.LOW - k);
            want[k]++;
            for (int other = 1; other <= 5; other++) {
                due("told(" + other + ")", x.told(other), want[other]);
            }
        }
        due.promise("promise 40: BEYOND: another k (counted, too)");
        for (int k : new int[] {0, 6, -1, 7, Due.LEAST, Due.MOST}) {
            due("told(" + k + ")", x.told(k), Due.BEYOND);
            want[1]++;
            due("told(1)", x.told(1), want[1]);
        }
        due("told(2)", x.told(2), want[2]);
        due.promise("promise 14: a FAULT is no ERROR; promises 15, 27, 28, 39: any number");
        x.text(0);
        x.text(0);
        Due.text(x, 1, "o");
        for (int k = 1; k <= 5; k++) {
            due("law(1, LOW - " + k + ", 0, 0)", x.law(1, Due.LOW - k, 0, 0), Due.LOW - k);
            due("voice(0, 2, LOW - " + k + ")", x.voice(0, 2, Due.LOW - k), Due.LOW - k);
            x.seed(Due.LOW - k);
            due("count(10)", x.count(10), Due.LOW - k);
            due("seed(1)", x.seed(1), Due.LOW - k);
        }
        for (int k = 1; k <= 5; k++) {
            due("told(" + k + ")", x.told(k), want[k]);
        }
    }

    private static void manyCalls() {
        due.promise("What it is: an object is used for at most 512 calls");
        LipsThatFit refused = new LipsThatFit();
        LipsThatFit kept = new LipsThatFit();
        for (int i = 1; i <= 511; i++) {
            due("mouthAt(60), call " + i, refused.mouthAt(60), Due.BEYOND);
            due("image(), call " + i, kept.image(), i);
        }
        due("told(1), call 512", refused.told(1), 511);
        due("image(), call 512", kept.image(), 512);
        LipsThatFit dear = new LipsThatFit();
        for (int i = 0; i < 10; i++) {
            dear.word(11111, i);
        }
        Due.text(dear, 0, "1+".repeat(24) + "f");
        dear.line(0, 45, 15);
        dear.wanted(0, 27);
        for (int i = 24; i <= 512; i++) {
            due("best(0, 0, 2), call " + i, dear.best(0, 0, 2), 9);
        }
    }

    public static void main(String[] args) {
        seeds();
        voices();
        sheets();
        lowestBits();
        moves();
        mouths();
        judges();
        waiting();
        counts();
        told();
        manyCalls();
        due.end();
    }
}
