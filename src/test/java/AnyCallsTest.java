import java.util.ArrayList;
import java.util.List;
import java.util.Random;

/** All promises: lives of any calls, right and wrong, each answer compared with the one that Plain tells. */
public final class AnyCallsTest {
    private static final Due due = new Due();
    private static final int LIVES = 600;
    private static final int MOST_CALLS = 512;
    /** How many calls the look at the end takes, or more. */
    private static final int LOOK = 180;
    /** A number that may be any. */
    private static final long[] ANY = {0, -1};

    /** A call, and for each of its numbers the least one and the most one that are tried most often. */
    private record Shape(String name, long[]... bounds) {
    }

    private static long[] to(long least, long most) {
        return new long[] {least, most};
    }

    private static final List<Shape> SHAPES = List.of(
            new Shape("mouth", to(0, 59), to(1, 6), to(0, 3)),
            new Shape("mouth", to(0, 30), to(10, 30), to(0, 3)),
            new Shape("mouthAt", to(0, 59)),
            new Shape("word", to(1, 3), to(0, 40)),
            new Shape("word", to(11, 33), to(0, 99)),
            new Shape("ofWord", to(0, 9), to(0, 2)),
            new Shape("line", to(0, 69), to(0, 45), to(1, 15)),
            new Shape("ofLine", to(0, 5), to(0, 9)),
            new Shape("said", to(0, 5), to(0, 2)),
            new Shape("become", to(0, 5), to(0, 69)),
            new Shape("as", to(0, 5), to(0, 6)),
            new Shape("wanted", to(0, 5), to(0, 99)),
            new Shape("say", to(0, 5), to(0, 3), to(0, 9), to(0, 9), to(0, 9)),
            new Shape("feed", ANY, to(1, 8)),
            new Shape("text", to(0, 1)),
            new Shape("law", to(0, 1), to(0, 99), to(0, 99), to(0, 99)),
            new Shape("law", to(0, 1), ANY, ANY, ANY),
            new Shape("minutes", to(1, 500)),
            new Shape("matinees", to(1, 100)),
            new Shape("best", to(0, 5), to(0, 99), to(-2, 2)),
            new Shape("dearest", to(0, 5), to(0, 99), to(-2, 2)),
            new Shape("heard", to(0, 5), to(-2, 2)),
            new Shape("must", to(0, 5)),
            new Shape("forgotten", to(0, 5)),
            new Shape("like", to(0, 3), to(0, 3), to(0, 99)),
            new Shape("cast", to(-1, 3)),
            new Shape("takes", to(1, 16), to(0, 6), to(0, 1)),
            new Shape("enough", to(1, 16), to(1, 15)),
            new Shape("seed", ANY),
            new Shape("voice", to(0, 5), to(0, 3), ANY),
            new Shape("trace", to(0, 12)),
            new Shape("sheet", to(0, 3), to(0, 32), to(0, 40)),
            new Shape("put", to(0, 3), to(0, 12), to(0, 3)),
            new Shape("put", to(0, 3), to(0, 39), ANY),
            new Shape("move", to(0, 3), to(0, 12), to(0, 3), to(0, 12), to(0, 12)),
            new Shape("mouths", to(0, 3)),
            new Shape("judge", to(0, 3)),
            new Shape("image"),
            new Shape("restore"),
            new Shape("tell", to(0, 3)),
            new Shape("check"),
            new Shape("count", to(0, 10)),
            new Shape("told", to(1, 5)));

    private final Random random;
    private final LipsThatFit x = new LipsThatFit();
    private final Plain plain = new Plain();
    private final List<String> life = new ArrayList<>();
    private static int errors = 0;

    private AnyCallsTest(long seed) {
        random = new Random(seed);
        due.promise("life " + seed);
    }

    private long both(String name, long... a) {
        String call = Face.told(name, a);
        life.add(call);
        long want = plain.call(name, a);
        errors += want < Due.LOW ? 1 : 0;
        due.due("call " + life.size() + ", " + call, Face.call(x, name, a), want);
        return want;
    }

    private long pick(long[] bounds) {
        long least = bounds[0];
        long most = bounds[1];
        if (least > most) {
            return random.nextBoolean() ? random.nextLong() : random.nextInt(40) - 20;
        }
        if (random.nextInt(30) != 0) {
            return least + random.nextInt((int) (most - least) + 1);
        }
        long[] edges = {least - 1, most + 1, least, most, -1, Due.LEAST, Due.MOST};
        return edges[random.nextInt(edges.length)];
    }

    private void anyCall() {
        Shape shape = SHAPES.get(random.nextInt(SHAPES.size()));
        long[] a = new long[shape.bounds.length];
        for (int i = 0; i < a.length; i++) {
            a[i] = pick(shape.bounds[i]);
            // Face makes ints of those that are to be ints
            a[i] = shape.name.equals("feed") && i == 0 ? a[i] : (int) a[i];
        }
        both(shape.name, a);
    }

    private void anyWord() {
        StringBuilder digits = new StringBuilder();
        for (int i = random.nextInt(5); i >= 0; i--) {
            digits.append(1 + random.nextInt(3));
        }
        both("word", Integer.parseInt(digits.toString()), random.nextInt(100));
    }

    /** A TEXT, or one with a FAULT, comes to THE TAPE by pieces. */
    private void anyText() {
        int use = random.nextInt(2);
        String names = use == 0 ? "fwn" : "olt";
        StringBuilder text = new StringBuilder();
        int open = 0;
        for (int i = random.nextInt(8); i >= 0; i--) {
            while (random.nextInt(6) == 0) {
                boolean not = random.nextBoolean();
                text.append(not ? '!' : '(');
                open += not ? 0 : 1;
            }
            if (random.nextBoolean()) {
                text.append(names.charAt(random.nextInt(3)));
            } else {
                text.append(random.nextInt(random.nextInt(3) == 0 ? 12000 : 9));
            }
            for (; open > 0 && random.nextInt(3) == 0; open--) {
                text.append(')');
            }
            if (i > 0 || random.nextInt(12) == 0) {
                text.append("|&<=>++--**/%".charAt(random.nextInt(13)));
            }
        }
        text.append(")".repeat(open));
        for (int at = 0; at < text.length();) {
            int n = Math.min(1 + random.nextInt(8), text.length() - at);
            long word = random.nextLong();
            for (int i = n - 1; i >= 0; i--) {
                word = word << 8 | text.charAt(at + i);
            }
            at = both("feed", word, n) < Due.LOW ? text.length() : at + n;
        }
        both("text", use);
    }

    /** A SHEET of a size and of bits that are fine. */
    private void anySheet() {
        both("sheet", random.nextInt(4), 8L << random.nextInt(3), random.nextInt(41));
    }

    /** A SHEET of what LINES are OFF, or nearly so. */
    private void anyJudge() {
        int sheet = random.nextInt(4);
        int lines = (int) both("count", 1);
        both("sheet", sheet, 8L << random.nextInt(3), lines);
        for (int line = 0; line < lines; line++) {
            both("put", sheet, line, both("ofLine", line, 6) + (random.nextInt(10) == 0 ? 1 : 0));
        }
        both("judge", sheet);
    }

    /** Some MOUTHS as they are on THE FILM wait, or nearly so. */
    private void anyCheck() {
        long waiting = both("count", 8);
        for (long tenth = waiting; tenth < 20 && random.nextInt(4) != 0; tenth++) {
            both("tell", both("mouthAt", tenth) + (random.nextInt(15) == 0 ? 1 : 0));
        }
        both("check");
    }

    private void anyAct() {
        switch (random.nextInt(60)) {
            case 0, 1 -> anyText();
            case 2 -> anySheet();
            case 3 -> anyJudge();
            case 4 -> anyCheck();
            case 5, 6 -> anyWord();
            default -> anyCall();
        }
    }

    private void look() {
        for (int what = 0; what <= 10; what++) {
            both("count", what);
        }
        for (int tenth = 0; tenth < 60; tenth++) {
            both("mouthAt", tenth);
        }
        for (int line = 0; line < 6; line++) {
            for (int what = 0; what <= 9; what++) {
                both("ofLine", line, what);
            }
        }
        for (int word = 0; word < 10; word++) {
            both("ofWord", word, 0);
        }
        for (int i = 0; i < 13; i++) {
            both("trace", i);
        }
        for (int k = 1; k <= 5; k++) {
            both("told", k);
        }
    }

    private void live() {
        for (int i = random.nextInt(8); i >= 0; i--) {
            anyWord();
        }
        for (int i = random.nextInt(5); i >= 0; i--) {
            both("line", random.nextInt(70), random.nextInt(46), 1 + random.nextInt(15));
        }
        while (life.size() < MOST_CALLS - LOOK - 40) {
            anyAct();
        }
        look();
        due.due("calls above 512", Math.max(0, life.size() - MOST_CALLS), 0);
    }

    public static void main(String[] args) {
        for (int seed = 0; seed < LIVES; seed++) {
            new AnyCallsTest(seed).live();
        }
        due.due("ERRORS were tried", errors > 1000 ? 1 : 0, 1);
        due.end();
    }
}
