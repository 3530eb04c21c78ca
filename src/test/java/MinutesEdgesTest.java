/** Promises 16 and 17 and the draws of Terms 3, at their bounds: MINUTE, LAUGHS, z. */
public final class MinutesEdgesTest {
    private static final Due due = new Due();

    private static void due(String call, long got, long want) {
        due.due(call, got, want);
    }

    private static int drawn(int z) {
        return z * 1103515245 + 12345;
    }

    private static boolean isLookedAt(int z) {
        return (z >>> 8) % 4 != 0;
    }

    private static void minutesTo(LipsThatFit x, int minute) {
        while (x.count(2) < minute) {
            x.minutes(Math.min(500, minute - x.count(2)));
        }
    }

    private static void minutes() {
        due.promise("promise 16: n (1 to 500) MINUTES go by: MINUTE");
        for (int n : new int[] {1, 2, 499, 500}) {
            LipsThatFit x = new LipsThatFit();
            due("minutes(" + n + ")", x.minutes(n), n);
            due("minutes(" + n + ") again", x.minutes(n), 2 * n);
            due("count(2)", x.count(2), 2 * n);
        }
        due.promise("promise 16: STATE: it would be above 9999");
        for (int n : new int[] {1, 2, 499, 500}) {
            for (int over = -1; over <= 1; over++) {
                LipsThatFit x = new LipsThatFit();
                minutesTo(x, 9999 - n + over);
                due("minutes(" + n + ") to " + (9999 + over), x.minutes(n), over > 0 ? Due.STATE : 9999 + over);
                due("count(2)", x.count(2), over > 0 ? 10000 - n : 9999 + over);
                due("told(3)", x.told(3), over > 0 ? 1 : 0);
            }
        }
        due.promise("promise 17: STATE: MINUTE would be above 9999");
        for (int n : new int[] {1, 2, 99, 100}) {
            for (int over = -1; over <= 1; over++) {
                LipsThatFit x = new LipsThatFit();
                x.line(0, 0, 1);
                minutesTo(x, 9999 - n + over);
                due("matinees(" + n + ") to " + (9999 + over), x.matinees(n), over > 0 ? Due.STATE : 0);
                due("count(2)", x.count(2), over > 0 ? 10000 - n : 9999 + over);
                due("z is drawn", x.count(10) == 1 ? 0 : 1, over > 0 ? 0 : 1);
            }
        }
    }

    private static void draws() {
        due.promise("Terms 3: z is told (1 at first); each draw makes it z * 1103515245 + 12345 (an int)");
        due("z at first", new LipsThatFit().seed(0), 1);
        for (int seed : new int[] {Due.LEAST, Due.LEAST + 1, -1, 0, 1, 2, Due.MOST - 1, Due.MOST}) {
            LipsThatFit x = new LipsThatFit();
            x.line(0, 0, 1);
            x.seed(seed);
            x.matinees(1);
            due("z behind a draw from " + seed, x.count(10), drawn(seed));
            due("seed(5) then", x.seed(5), drawn(seed));
        }
        due.promise("Terms 3: for each LINE a draw");
        for (int lines = 0; lines <= 6; lines++) {
            for (int n : new int[] {1, 2, 99, 100}) {
                LipsThatFit x = new LipsThatFit();
                Due.text(x, 1, "1");
                int z = 1;
                int laughs = 0;
                for (int i = 0; i < lines; i++) {
                    x.line(0, 0, 1);
                }
                for (int i = 0; i < n * lines; i++) {
                    z = drawn(z);
                    laughs += isLookedAt(z) ? 1 : 0;
                }
                due("matinees(" + n + ") of " + lines, x.matinees(n), laughs);
                due("z", x.count(10), z);
                due("MINUTE", x.count(2), n);
                due("LAUGHS", x.count(3), laughs);
            }
        }
    }

    private static void rests() {
        due.promise("Terms 3: it is looked at, if the rest of z >>> 8 by 4 isn't 0");
        int[] seen = new int[8];
        for (int i = 0; i < 64; i++) {
            int seed = i * 67108879 + 5;
            int z = drawn(seed);
            // by both signs of z, which >>> doesn't keep
            seen[(z >>> 8) % 4 + (z < 0 ? 4 : 0)]++;
            LipsThatFit x = new LipsThatFit();
            Due.text(x, 1, "1");
            x.line(0, 0, 1);
            x.seed(seed);
            due("matinees(1) from " + seed, x.matinees(1), isLookedAt(z) ? 1 : 0);
            Due.text(x, 1, "0");
            x.seed(seed);
            due("matinees(1) of what isn't NOTICED", x.matinees(1), isLookedAt(z) ? 1 : 0);
        }
        for (int i = 0; i < 8; i++) {
            due("rest and sign " + i + " are tried", seen[i] > 0 ? 1 : 0, 1);
        }
    }

    /** A seed by which the next draw looks at the LINE. */
    private static int seedThatLooks() {
        int seed = 1;
        while (!isLookedAt(drawn(seed))) {
            seed++;
        }
        return seed;
    }

    private static void noticedThen() {
        due.promise("Terms 3: if it is NOTICED then; MINUTE is 1 more");
        for (int minute = 5; minute <= 9; minute++) {
            LipsThatFit x = new LipsThatFit();
            Due.text(x, 1, "t=7");
            x.line(0, 0, 1);
            x.minutes(minute);
            x.seed(seedThatLooks());
            due("matinees(1) at " + minute, x.matinees(1), minute == 7 ? 1 : 0);
            due("MINUTE", x.count(2), minute + 1);
        }
        LipsThatFit x = new LipsThatFit();
        Due.text(x, 1, "t=99");
        x.line(0, 0, 1);
        due("matinees(99) up to MINUTE 98", x.matinees(99), 0);
        x.seed(seedThatLooks());
        due("matinees(1) at MINUTE 99", x.matinees(1), 1);
        due("matinees(100) from MINUTE 100 on", x.matinees(100), 1);
        due.promise("Terms 3: NOTICED without a TEXT: OFF > 3 + MINUTE / 10");
        for (int minute : new int[] {8, 9, 10, 19, 20}) {
            LipsThatFit y = new LipsThatFit();
            y.line(0, 0, 5);
            y.minutes(minute);
            y.seed(seedThatLooks());
            due("matinees(1) at " + minute, y.matinees(1), minute < 20 ? 1 : 0);
        }
    }

    /** LAUGHS as they are due, and z, beside an object that is asked for the same. */
    private static final class House {
        final LipsThatFit x = new LipsThatFit();
        int z = 1;
        int laughs = 0;

        /** So many MATINEES, with so many of six LINES NOTICED. */
        void matinees(int n, int noticed) {
            for (int i = 0; i < 6 * n; i++) {
                z = drawn(z);
                laughs = Math.min(9999, laughs + (isLookedAt(z) && i % 6 < noticed ? 1 : 0));
            }
            due("matinees(" + n + ")", x.matinees(n), laughs);
            due("z", x.count(10), z);
        }
    }

    private static void laughs() {
        due.promise("Terms 3: LAUGHS (0 at first; 9999 at most)");
        House house = new House();
        due("LAUGHS at first", house.x.count(3), 0);
        for (int i = 0; i < 6; i++) {
            house.x.line(0, 0, i == 0 ? 1 : 2);
        }
        Due.text(house.x, 1, "1");
        while (house.laughs < 9400) {
            house.matinees(100, 6);
        }
        while (house.laughs < 9900) {
            house.matinees(10, 6);
        }
        while (house.laughs < 9980) {
            house.matinees(1, 6);
        }
        // LINE 0 alone: LAUGHS come one by one
        Due.text(house.x, 1, "o=1");
        boolean[] seen = new boolean[10000];
        for (int i = 0; i < 40; i++) {
            house.matinees(1, 1);
            seen[house.laughs] = true;
        }
        due("LAUGHS of 9998 were", seen[9998] ? 1 : 0, 1);
        due("LAUGHS stay", house.x.count(3), 9999);
        Due.text(house.x, 1, "1");
        house.matinees(100, 6);
    }

    public static void main(String[] args) {
        minutes();
        draws();
        rests();
        noticedThen();
        laughs();
        due.end();
    }
}
