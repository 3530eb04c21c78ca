/** Promises 16 and 17: minutes. */
public final class MinutesTest {
    private static final Due due = new Due();

    private static void due(String call, long got, long want) {
        due.due(call, got, want);
    }

    private static void minutes() {
        due.promise("promise 16");
        LipsThatFit x = new LipsThatFit();
        int[] wrong = {0, -1, 501, Due.MOST, Due.LEAST};
        for (int n : wrong) {
            due("minutes(" + n + ")", x.minutes(n), Due.BEYOND);
        }
        due("minutes(1)", x.minutes(1), 1);
        for (int i = 1; i <= 19; i++) {
            due("minutes(500)", x.minutes(500), 1 + 500 * i);
        }
        due("minutes(499) to 10000", x.minutes(499), Due.STATE);
        due("minutes(501) to 10002", x.minutes(501), Due.BEYOND);
        due("count(2)", x.count(2), 9501);
        due("minutes(498) to 9999", x.minutes(498), 9999);
        due("minutes(1) to 10000", x.minutes(1), Due.STATE);
        due("told(3)", x.told(3), 2);
        due("told(1)", x.told(1), 6);
    }

    private static void matinees() {
        due.promise("promise 17");
        LipsThatFit x = new LipsThatFit();
        int[] wrong = {0, -1, 101, Due.MOST, Due.LEAST};
        for (int n : wrong) {
            due("matinees(" + n + ")", x.matinees(n), Due.BEYOND);
        }
        due("matinees(100) of no LINES", x.matinees(100), 0);
        due("count(10) of no LINES", x.count(10), 1);
        due("count(2)", x.count(2), 100);
        due("minutes to 9900", minutesTo(x, 9900), 9900);
        due("matinees(100) to 10000", x.matinees(100), Due.STATE);
        due("matinees(101) to 10001", x.matinees(101), Due.BEYOND);
        due("count(2)", x.count(2), 9900);
        due("matinees(99) to 9999", x.matinees(99), 0);
        due("count(2)", x.count(2), 9999);
    }

    private static int minutesTo(LipsThatFit x, int minute) {
        while (x.count(2) < minute) {
            x.minutes(Math.min(500, minute - x.count(2)));
        }
        return x.count(2);
    }

    /** MATINEES step by step: what is NOTICED changes while they go on. */
    private static void draws() {
        due.promise("promise 17, draws");
        LipsThatFit x = new LipsThatFit();
        x.line(0, 0, 4);
        x.line(0, 0, 8);
        x.line(0, 0, 3);
        x.line(10, 0, 5);
        int[] off = {4, 8, 3, 15};
        int z = 1;
        int laughs = 0;
        for (int i = 0; i < 130; i++) {
            for (int line = 0; line < 4; line++) {
                z = z * 1103515245 + 12345;
                laughs += (z >>> 8) % 4 != 0 && off[line] > 3 + i / 10 ? 1 : 0;
            }
            if (i == 6) {
                due("matinees(7)", x.matinees(7), laughs);
                due("count(10)", x.count(10), z);
            }
        }
        x.matinees(100);
        due("matinees(23)", x.matinees(23), laughs);
        due("count(3)", x.count(3), laughs);
        due("count(10)", x.count(10), z);
        due("count(2)", x.count(2), 130);
    }

    private static void loss() {
        due.promise("promise 17, by LOSS");
        LipsThatFit x = new LipsThatFit();
        x.line(0, 0, 1);
        x.wanted(0, 30);
        Due.text(x, 1, "l=30&o=1&t<2");
        int z = x.seed(77);
        due("seed(77)", z, 1);
        z = 77;
        int laughs = 0;
        for (int i = 0; i < 9; i++) {
            z = z * 1103515245 + 12345;
            laughs += (z >>> 8) % 4 != 0 && i < 2 ? 1 : 0;
        }
        due("matinees(9)", x.matinees(9), laughs);
        due("laughs are tried", laughs > 0 ? 1 : 0, 1);
    }

    /** LAUGHS stay at 9999: six LINES, all NOTICED always, by 9999 MATINEES at most. */
    private static void mostLaughs() {
        due.promise("promise 17, LAUGHS");
        LipsThatFit x = new LipsThatFit();
        Due.text(x, 1, "1");
        for (int i = 0; i < 6; i++) {
            x.line(0, 0, 1);
        }
        int z = 1;
        int laughs = 0;
        for (int i = 0; i < 30; i++) {
            for (int draw = 0; draw < 600; draw++) {
                z = z * 1103515245 + 12345;
                laughs = Math.min(9999, laughs + ((z >>> 8) % 4 != 0 ? 1 : 0));
            }
            due("matinees(100)", x.matinees(100), laughs);
        }
        due("count(3)", x.count(3), 9999);
        due("count(10)", x.count(10), z);
    }

    public static void main(String[] args) {
        minutes();
        matinees();
        draws();
        loss();
        mostLaughs();
        due.end();
    }
}
