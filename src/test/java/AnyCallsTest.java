import java.util.Random;

/** All promises: any calls, right and wrong, throw nothing, and an ERROR changes nothing but what told() tells. */
public final class AnyCallsTest {
    private static final Due due = new Due();
    private static final int CALLS = 38;
    private static final int[] EDGES = {Due.LEAST, Due.LOW, -100, -2, -1, 0, 1, 2, 3, 4, 5, 6, 7, 8, 9, 10, 15, 16, 17,
        32, 39, 40, 41, 50, 59, 60, 61, 69, 70, 99, 100, 101, 123, 500, 501, 9999, 33333, Due.MOST - 1, Due.MOST};

    private static int any(Random random) {
        return random.nextInt(3) == 0 ? EDGES[random.nextInt(EDGES.length)] : random.nextInt(7);
    }

    private static int few(Random random, int most) {
        return random.nextInt(12) == 0 ? any(random) : random.nextInt(most + 1);
    }

    private static long call(LipsThatFit x, int call, Random r) {
        return switch (call) {
            case 0 -> x.mouth(few(r, 59), few(r, 9), few(r, 3));
            case 1 -> x.mouthAt(few(r, 59));
            case 2 -> x.word(10 * (1 + few(r, 2)) + 1 + few(r, 2), few(r, 99));
            case 3 -> x.ofWord(few(r, 9), few(r, 2));
            case 4 -> x.line(few(r, 69), few(r, 45), few(r, 15));
            case 5 -> x.ofLine(few(r, 5), few(r, 9));
            case 6 -> x.said(few(r, 5), few(r, 2));
            case 7 -> x.become(few(r, 5), few(r, 69));
            case 8 -> x.as(few(r, 5), few(r, 6));
            case 9 -> x.wanted(few(r, 5), few(r, 99));
            case 10 -> x.say(few(r, 5), few(r, 3), few(r, 9), few(r, 9), few(r, 9));
            case 11 -> x.feed(random(r), few(r, 8));
            case 12 -> x.text(few(r, 1));
            case 13 -> x.law(few(r, 1), any(r), any(r), any(r));
            case 14 -> x.minutes(few(r, 500));
            case 15 -> x.matinees(few(r, 100));
            case 16 -> x.best(few(r, 5), few(r, 99), few(r, 4) - 2);
            case 17 -> x.dearest(few(r, 5), few(r, 99), few(r, 4) - 2);
            case 18 -> x.heard(few(r, 5), few(r, 4) - 2);
            case 19 -> x.must(few(r, 5));
            case 20 -> x.forgotten(few(r, 5));
            case 21 -> x.like(few(r, 3), few(r, 3), few(r, 99));
            case 22 -> x.cast(few(r, 4) - 1);
            case 23 -> x.takes(few(r, 16), few(r, 6), few(r, 1));
            case 24 -> x.enough(few(r, 16), few(r, 15));
            case 25 -> x.seed(any(r));
            case 26 -> x.voice(few(r, 5), few(r, 3), any(r));
            case 27 -> x.trace(few(r, 40));
            case 28 -> x.sheet(few(r, 3), 8 << r.nextInt(3), few(r, 40));
            case 29 -> x.put(few(r, 3), few(r, 39), any(r));
            case 30 -> x.move(few(r, 3), few(r, 39), few(r, 3), few(r, 39), few(r, 20));
            case 31 -> x.mouths(few(r, 3));
            case 32 -> x.judge(few(r, 3));
            case 33 -> x.image();
            case 34 -> x.restore();
            case 35 -> x.tell(few(r, 3));
            case 36 -> x.check();
            case 37 -> x.count(few(r, 10));
            default -> x.told(few(r, 6));
        };
    }

    /** Bytes that are often a TEXT's. */
    private static long random(Random random) {
        String bytes = "1f1w1n1o1l1t!(+-*/%<=>&|)";
        long word = random.nextLong();
        for (int i = 0; i < 8; i++) {
            if (random.nextInt(30) != 0) {
                word = word << 8 | bytes.charAt(random.nextInt(bytes.length()));
            }
        }
        return word;
    }

    /** Which calls answer numbers that may look like an ERROR. */
    private static boolean isAnyNumber(int call) {
        return call == 13 || call == 25 || call == 26 || call == 37;
    }

    private static int[] look(LipsThatFit x) {
        int[] seen = new int[120];
        int at = 0;
        for (int what = 0; what <= 10; what++) {
            seen[at++] = x.count(what);
        }
        for (int tenth = 0; tenth < 60; tenth++) {
            seen[at++] = x.mouthAt(tenth);
        }
        for (int line = 0; line < seen[1]; line++) {
            seen[at++] = x.ofLine(line, 0) * 10 + x.ofLine(line, 1);
            seen[at++] = x.ofLine(line, 4);
        }
        seen[at++] = x.cast(-1);
        seen[at++] = x.law(0, 1, 2, 3);
        seen[at++] = x.law(1, 5, 6, 7);
        return seen;
    }

    private static int toldAll(LipsThatFit x) {
        return x.told(1) + x.told(2) + x.told(3) + x.told(4) + x.told(5);
    }

    public static void main(String[] args) {
        Random random = new Random(4);
        int errors = 0;
        for (int round = 0; round < 3000; round++) {
            LipsThatFit x = new LipsThatFit();
            x.word(1 + random.nextInt(3), random.nextInt(100));
            x.line(random.nextInt(70), random.nextInt(46), 1 + random.nextInt(15));
            for (int i = 0; i < 230; i++) {
                call(x, random.nextInt(CALLS + 1), random);
            }
            // at most 512 calls for each object: what is left is for the looks
            int call = random.nextInt(CALLS);
            int[] before = look(x);
            int told = toldAll(x);
            long answer = call(x, call, random);
            boolean error = !isAnyNumber(call) && answer < Due.LOW;
            due.promise("call " + call);
            due.due("told() is 1 more by an ERROR", toldAll(x), isAnyNumber(call) ? toldAll(x) : told + (error ? 1 : 0));
            if (error) {
                errors++;
                int[] after = look(x);
                for (int i = 0; i < before.length; i++) {
                    due.due("look " + i + " by an ERROR", after[i], before[i]);
                }
            }
        }
        due.due("ERRORS were tried", errors > 200 ? 1 : 0, 1);
        due.end();
    }
}
