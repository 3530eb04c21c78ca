/** Promises 2 to 40: which numbers are refused, in which order, and that nothing but told() is changed by it. */
public final class RefusedTest {
    private static final Due due = new Due();
    private static final Twins twins = new Twins(due, Twins::full);

    /** Twins.full() has three WORDS, three LINES and nine BODIES in THE TRACE. */
    private static final int LAST_WORD = 2;
    private static final int LAST_LINE = 2;

    private static final int BEYOND = 1;
    private static final int NONE = 2;
    private static final int STATE = 3;
    private static final int FULL = 4;
    private static final int KIND = 5;

    private static void mouths() {
        due.promise("promise 2, BEYOND");
        twins.bounds("mouth(v, 1, 1)", 0, 59, v -> x -> x.mouth(v, 1, 1));
        twins.bounds("mouth(0, v, 1)", 1, 60, v -> x -> x.mouth(0, v, 1));
        twins.bounds("mouth(5, 1, v)", 0, 3, v -> x -> x.mouth(5, 1, v));
        due.promise("promise 2, BEYOND: also if they aren't all in THE FILM");
        twins.bounds("mouth(1, v, 1)", 1, 59, v -> x -> x.mouth(1, v, 1));
        twins.bounds("mouth(30, v, 1)", 1, 30, v -> x -> x.mouth(30, v, 1));
        twins.bounds("mouth(59, v, 1)", 1, 1, v -> x -> x.mouth(59, v, 1));
        twins.bounds("mouth(v, 20, 1)", 0, 40, v -> x -> x.mouth(v, 20, 1));
        twins.bounds("mouth(v, 60, 1)", 0, 0, v -> x -> x.mouth(v, 60, 1));
        due.promise("promise 3, BEYOND");
        twins.bounds("mouthAt(v)", 0, 59, v -> x -> x.mouthAt(v));
    }

    private static void words() {
        due.promise("promise 4, BEYOND");
        twins.bounds("word(123, v)", 0, 99, v -> x -> x.word(123, v));
        // 1 to 5 digits, each of them 1 to 3
        int[] right = {1, 3, 11, 33, 13, 111, 333, 1111, 3333, 11111, 33333, 12321};
        for (int syllables : right) {
            twins.taken("word(" + syllables + ", 0)", x -> x.word(syllables, 0));
        }
        int[] wrong = {0, 4, 10, 14, 30, 34, 40, 41, 101, 103, 141, 411, -1, -3, -33333, 33334, 33340, 33433, 34333,
            43333, 11110, 10111, 111111, 133333, 333333, 1111111111, Due.LEAST, Due.MOST};
        for (int syllables : wrong) {
            twins.refused("word(" + syllables + ", 0)", BEYOND, x -> x.word(syllables, 0));
        }
        due.promise("promise 4, FULL: at most 10, behind BEYOND");
        twins.taken("word(1, 1), the tenth", x -> x.word(1, 1), moreWords(6));
        twins.refused("word(1, 1), the eleventh", FULL, x -> x.word(1, 1), moreWords(7));
        twins.refused("word(4, 1), the eleventh", BEYOND, x -> x.word(4, 1), moreWords(7));
        twins.refused("word(1, 100), the eleventh", BEYOND, x -> x.word(1, 100), moreWords(7));
        due.promise("promise 5, BEYOND");
        twins.bounds("ofWord(v, 0)", 0, LAST_WORD, v -> x -> x.ofWord(v, 0));
        twins.bounds("ofWord(v, 0) of ten", 0, 9, v -> x -> x.ofWord(v, 0), moreWords(7));
        twins.bounds("ofWord(0, v)", 0, 2, v -> x -> x.ofWord(0, v));
    }

    private static Act[] moreWords(int n) {
        return many(n, x -> x.word(1, 0));
    }

    private static Act[] many(int n, Act act) {
        Act[] acts = new Act[n];
        java.util.Arrays.fill(acts, act);
        return acts;
    }

    private static void lines() {
        due.promise("promise 6, BEYOND");
        twins.bounds("line(v, 0, 1)", 0, 69, v -> x -> x.line(v, 0, 1));
        twins.bounds("line(0, v, 1)", 0, 59, v -> x -> x.line(0, v, 1));
        twins.bounds("line(0, 0, v)", 1, 15, v -> x -> x.line(0, 0, v));
        due.promise("promise 6, BEYOND: also if it isn't all in THE FILM");
        twins.bounds("line(0, 45, v)", 1, 15, v -> x -> x.line(0, 45, v));
        twins.bounds("line(0, 46, v)", 1, 14, v -> x -> x.line(0, 46, v));
        twins.bounds("line(0, 59, v)", 1, 1, v -> x -> x.line(0, 59, v));
        twins.bounds("line(0, v, 15)", 0, 45, v -> x -> x.line(0, v, 15));
        twins.bounds("line(0, v, 7)", 0, 53, v -> x -> x.line(0, v, 7));
        due.promise("promise 6, FULL: at most 6, behind BEYOND");
        Act[] five = many(2, x -> x.line(0, 0, 1));
        Act[] six = many(3, x -> x.line(0, 0, 1));
        twins.taken("line(0, 0, 1), the sixth", x -> x.line(0, 0, 1), five);
        twins.refused("line(0, 0, 1), the seventh", FULL, x -> x.line(0, 0, 1), six);
        twins.refused("line(70, 0, 1), the seventh", BEYOND, x -> x.line(70, 0, 1), six);
        twins.refused("line(0, 60, 1), the seventh", BEYOND, x -> x.line(0, 60, 1), six);
        twins.refused("line(0, 46, 15), the seventh", BEYOND, x -> x.line(0, 46, 15), six);
        due.promise("promises 7 to 12, BEYOND");
        twins.bounds("ofLine(v, 0)", 0, LAST_LINE, v -> x -> x.ofLine(v, 0));
        twins.bounds("ofLine(v, 0) of six", 0, 5, v -> x -> x.ofLine(v, 0), six);
        twins.bounds("ofLine(0, v)", 0, 9, v -> x -> x.ofLine(0, v));
        twins.bounds("said(v, 0)", 0, LAST_LINE, v -> x -> x.said(v, 0), x -> x.say(1, 1, 0, 0, 0));
        twins.bounds("said(0, v)", 0, 2, v -> x -> x.said(0, v));
        twins.bounds("become(v, 0)", 0, LAST_LINE, v -> x -> x.become(v, 0));
        twins.bounds("become(0, v)", 0, 69, v -> x -> x.become(0, v));
        twins.bounds("as(v, 0)", 0, LAST_LINE, v -> x -> x.as(v, 0));
        twins.bounds("as(v, 0) of six", 0, 5, v -> x -> x.as(v, 0), six);
        twins.bounds("wanted(v, 1)", 0, LAST_LINE, v -> x -> x.wanted(v, 1));
        twins.bounds("wanted(0, v)", 0, 99, v -> x -> x.wanted(0, v));
    }

    private static void as() {
        due.promise("promise 10, BEYOND: a KIND is 0 to 6");
        int[] beyond = {-1, 7, Due.LEAST, Due.MOST};
        for (int kind : beyond) {
            twins.refused("as(0, " + kind + ")", BEYOND, x -> x.as(0, kind));
        }
        due.promise("promise 10, KIND: it isn't of that KIND, nor of one under it");
        // by KIND: which KINDS it is of, as bits
        int[] of = {1, 3, 5, 9, 19, 37, 73};
        for (int i = 0; i < 49; i++) {
            int kind = i / 7;
            int other = i % 7;
            Act ahead = x -> x.become(0, 10 * kind + 3);
            String call = "as(0, " + other + ") of KIND " + kind;
            if ((of[kind] >> other & 1) == 1) {
                twins.taken(call, x -> x.as(0, other), ahead);
            } else {
                twins.refused(call, KIND, x -> x.as(0, other), ahead);
            }
        }
    }

    private static void said() {
        due.promise("promise 8, NONE: there is none such; behind BEYOND");
        for (int n = 0; n <= 3; n++) {
            int many = n;
            Act ahead = x -> x.say(0, many, 0, 1, 2);
            for (int i = 0; i < 3; i++) {
                int place = i;
                if (place < many) {
                    twins.taken("said(0, " + i + ") of " + n, x -> x.said(0, place), ahead);
                } else {
                    twins.refused("said(0, " + i + ") of " + n, NONE, x -> x.said(0, place), ahead);
                }
            }
            twins.refused("said(0, 3) of " + n, BEYOND, x -> x.said(0, 3), ahead);
            twins.refused("said(0, -1) of " + n, BEYOND, x -> x.said(0, -1), ahead);
        }
    }

    private static void say() {
        due.promise("promise 12, BEYOND");
        twins.bounds("say(v, 1, 0, 0, 0)", 0, LAST_LINE, v -> x -> x.say(v, 1, 0, 0, 0));
        twins.bounds("say(0, v, 0, 0, 0)", 0, 3, v -> x -> x.say(0, v, 0, 0, 0));
        for (int n = 1; n <= 3; n++) {
            int many = n;
            twins.bounds("say(1, " + n + ", v, 0, 0)", 0, LAST_WORD, v -> x -> x.say(1, many, v, 0, 0));
            twins.bounds("say(1, " + n + ", v, 0, 0) of ten", 0, 9, v -> x -> x.say(1, many, v, 0, 0), moreWords(7));
        }
        twins.bounds("say(1, 2, 0, v, 0)", 0, LAST_WORD, v -> x -> x.say(1, 2, 0, v, 0));
        twins.bounds("say(1, 3, 0, v, 0)", 0, LAST_WORD, v -> x -> x.say(1, 3, 0, v, 0));
        twins.bounds("say(1, 3, 0, 0, v)", 0, LAST_WORD, v -> x -> x.say(1, 3, 0, 0, v));
        due.promise("promise 12, as many as count: those behind them aren't asked");
        int[] any = {Due.LEAST, -1, LAST_WORD + 1, Due.MOST};
        for (int v : any) {
            twins.taken("say(0, 0, v, v, v)", x -> x.say(0, 0, v, v, v));
            twins.taken("say(0, 1, 2, v, v)", x -> x.say(0, 1, 2, v, v));
            twins.taken("say(0, 2, 2, 2, v)", x -> x.say(0, 2, 2, 2, v));
        }
    }

    private static void texts() {
        due.promise("promise 13, BEYOND");
        twins.bounds("feed(.., v)", 1, 8, v -> x -> x.feed(0x3131313131313131L, v));
        due.promise("promise 13, FULL: THE TAPE has 50 bytes at most; behind BEYOND");
        // three bytes are there
        for (int n = 1; n <= 8; n++) {
            int many = n;
            twins.taken("feed(.., " + n + ") to 50", x -> x.feed(0x2b2b2b2b2b2b2b2bL, many), tape(47 - n));
            twins.refused("feed(.., " + n + ") to 51", FULL, x -> x.feed(0x2b2b2b2b2b2b2b2bL, many), tape(48 - n));
            twins.refused("feed(.., " + n + ") above 50", FULL, x -> x.feed('+', many), tape(47));
        }
        twins.refused("feed(.., 9) above 50", BEYOND, x -> x.feed('+', 9), tape(47));
        twins.refused("feed(.., 0) above 50", BEYOND, x -> x.feed('+', 0), tape(47));
        due.promise("promise 14, BEYOND: THE TAPE stays");
        twins.bounds("text(v)", 0, 1, v -> x -> x.text(v), x -> x.text(1), x -> x.feed('1', 1));
        due.promise("promise 15, BEYOND");
        twins.bounds("law(v, 1, 2, 3)", 0, 1, v -> x -> x.law(v, 1, 2, 3));
    }

    /** So many bytes more on THE TAPE, by one call. */
    private static Act tape(int n) {
        return x -> Due.feed(x, "+1".repeat(25).substring(0, n));
    }

    private static void minutes() {
        due.promise("promise 16, BEYOND");
        twins.bounds("minutes(v)", 1, 500, v -> x -> x.minutes(v));
        due.promise("promise 16, STATE: it would be above 9999; behind BEYOND");
        for (int n : new int[] {1, 2, 499, 500}) {
            twins.taken("minutes(" + n + ") to 9998", x -> x.minutes(n), minute(9998 - n));
            twins.taken("minutes(" + n + ") to 9999", x -> x.minutes(n), minute(9999 - n));
            twins.refused("minutes(" + n + ") to 10000", STATE, x -> x.minutes(n), minute(10000 - n));
            twins.refused("minutes(" + n + ") above 9999", STATE, x -> x.minutes(n), minute(9999));
        }
        twins.refused("minutes(501) above 9999", BEYOND, x -> x.minutes(501), minute(9999));
        twins.refused("minutes(0) at 9999", BEYOND, x -> x.minutes(0), minute(9999));
        twins.refused("minutes(-1) at 9999", BEYOND, x -> x.minutes(-1), minute(9999));
        due.promise("promise 17, BEYOND");
        twins.bounds("matinees(v)", 1, 100, v -> x -> x.matinees(v));
        due.promise("promise 17, STATE: MINUTE would be above 9999; behind BEYOND");
        for (int n : new int[] {1, 2, 99, 100}) {
            twins.taken("matinees(" + n + ") to 9999", x -> x.matinees(n), minute(9999 - n));
            twins.refused("matinees(" + n + ") to 10000", STATE, x -> x.matinees(n), minute(10000 - n));
            twins.refused("matinees(" + n + ") above 9999", STATE, x -> x.matinees(n), minute(9999));
        }
        twins.refused("matinees(101) above 9999", BEYOND, x -> x.matinees(101), minute(9999));
        twins.refused("matinees(0) at 9999", BEYOND, x -> x.matinees(0), minute(9999));
    }

    private static Act minute(int minute) {
        return x -> {
            while (x.count(2) < minute) {
                x.minutes(Math.min(500, minute - x.count(2)));
            }
            return 0;
        };
    }

    private static void rows() {
        due.promise("promises 18 to 20, BEYOND");
        twins.bounds("best(v, 99, 0)", 0, LAST_LINE, v -> x -> x.best(v, 99, 0));
        twins.bounds("best(0, v, 0)", 0, 99, v -> x -> x.best(0, v, 0), x -> x.wanted(0, 0));
        twins.bounds("dearest(v, 99, 0)", 0, LAST_LINE, v -> x -> x.dearest(v, 99, 0));
        // where all is HIDDEN, a LINE of 9 is OFF by nothing, and HEARD
        Act[] open = {x -> x.mouth(0, 60, 3), x -> x.line(0, 0, 9)};
        twins.bounds("dearest(v, 99, 0)", 0, 3, v -> x -> x.dearest(v, 99, 0), open);
        twins.bounds("dearest(3, v, 0)", 0, 99, v -> x -> x.dearest(3, v, 0), open);
        twins.bounds("heard(v, 0)", 0, 3, v -> x -> x.heard(v, 0), open);
        // rows of three WORDS are the only ones that are so dear, or so long
        Act[] three = {x -> x.mouth(0, 60, 3), x -> x.line(0, 0, 9), x -> x.become(0, 0), x -> x.wanted(0, 99)};
        twins.bounds("best(3, 0, v) of three", -2, 2, v -> x -> x.best(3, 0, v), three);
        twins.bounds("dearest(3, 0, v) of three", -2, 2, v -> x -> x.dearest(3, 0, v), three);
        twins.bounds("heard(3, v) of three", -2, 2, v -> x -> x.heard(3, v), three);
        due.promise("promises 18 to 20, NONE: there is no such one");
        Act[] one = {x -> x.mouth(0, 60, 3), x -> x.line(0, 0, 1)};
        Act[] two = {x -> x.mouth(0, 60, 3), x -> x.line(0, 0, 6)};
        for (int what = 0; what <= 2; what++) {
            int place = what;
            noneFrom(1, what, "best(3, 99, ", x -> x.best(3, 99, place), one);
            noneFrom(1, what, "dearest(3, 0, ", x -> x.dearest(3, 0, place), one);
            noneFrom(1, what, "heard(3, ", x -> x.heard(3, place), one);
            noneFrom(2, what, "best(3, 99, ", x -> x.best(3, 99, place), two);
            noneFrom(2, what, "dearest(3, 0, ", x -> x.dearest(3, 0, place), two);
            noneFrom(2, what, "heard(3, ", x -> x.heard(3, place), two);
        }
    }

    private static void noneFrom(int size, int place, String call, Act act, Act... ahead) {
        if (place < size) {
            twins.taken(call + place + ") of " + size, act, ahead);
        } else {
            twins.refused(call + place + ") of " + size, NONE, act, ahead);
        }
    }

    /** Two WORDS, of a SENSE of 5 and 6, and a LINE that wants more, and longer, ones. */
    private static LipsThatFit poor() {
        LipsThatFit x = new LipsThatFit();
        x.word(1, 5);
        x.word(2, 6);
        x.mouth(0, 15, 1);
        x.line(0, 0, 15);
        x.wanted(0, 99);
        return x;
    }

    private static void rowsByNone() {
        due.promise("promises 18 to 20, NONE: by none; behind BEYOND");
        Twins poor = new Twins(due, RefusedTest::poor);
        for (int what = -2; what <= 2; what++) {
            int place = what;
            poor.taken("best(0, 81, " + what + ")", x -> x.best(0, 81, place));
            poor.refused("best(0, 80, " + what + ")", NONE, x -> x.best(0, 80, place));
            poor.taken("dearest(0, 12, " + what + ")", x -> x.dearest(0, 12, place));
            poor.refused("dearest(0, 11, " + what + ")", NONE, x -> x.dearest(0, 11, place));
            if (what != -2) {
                poor.refused("heard(0, " + what + ")", NONE, x -> x.heard(0, place));
            }
        }
        poor.taken("heard(0, -2)", x -> x.heard(0, -2));
        for (int what : new int[] {-3, 3}) {
            poor.refused("best(0, 0, " + what + ")", BEYOND, x -> x.best(0, 0, what));
            poor.refused("dearest(0, 0, " + what + ")", BEYOND, x -> x.dearest(0, 0, what));
            poor.refused("heard(0, " + what + ")", BEYOND, x -> x.heard(0, what));
        }
        poor.refused("best(0, -1, 0)", BEYOND, x -> x.best(0, -1, 0));
        poor.refused("dearest(0, -1, 0)", BEYOND, x -> x.dearest(0, -1, 0));
        due.promise("promises 18 to 20, NONE: there are no WORDS");
        Twins mute = new Twins(due, () -> {
            LipsThatFit x = new LipsThatFit();
            x.line(0, 0, 15);
            return x;
        });
        mute.refused("best(0, 99, -2)", NONE, x -> x.best(0, 99, -2));
        mute.refused("dearest(0, 99, -2)", NONE, x -> x.dearest(0, 99, -2));
        mute.refused("heard(0, -1)", NONE, x -> x.heard(0, -1));
        mute.taken("heard(0, -2)", x -> x.heard(0, -2));
    }

    private static void wouldBe() {
        due.promise("promises 21 and 22, BEYOND");
        twins.bounds("must(v)", 0, LAST_LINE, v -> x -> x.must(v));
        Act[] never = {x -> x.text(0), x -> Due.text(x, 1, "0")};
        twins.bounds("forgotten(v)", 0, LAST_LINE, v -> x -> x.forgotten(v), never);
        due.promise("promise 22, NONE: not by 500; behind BEYOND");
        Act[] always = {x -> x.text(0), x -> Due.text(x, 1, "1")};
        twins.refused("forgotten(0)", NONE, x -> x.forgotten(0), always);
        twins.refused("forgotten(3)", BEYOND, x -> x.forgotten(3), always);
        due.promise("promises 23 to 26, BEYOND");
        twins.bounds("like(v, 1, 2)", 0, 3, v -> x -> x.like(v, 1, 2));
        twins.bounds("like(1, v, 2)", 0, 3, v -> x -> x.like(1, v, 2));
        twins.bounds("like(1, 2, v)", 0, 99, v -> x -> x.like(1, 2, v));
        twins.bounds("cast(v)", -1, 3, v -> x -> x.cast(v));
        twins.bounds("takes(v, 3, 0)", 1, 16, v -> x -> x.takes(v, 3, 0));
        twins.bounds("takes(3, v, 0)", 0, 6, v -> x -> x.takes(3, v, 0));
        twins.bounds("takes(3, 3, v)", 0, 1, v -> x -> x.takes(3, 3, v));
        twins.bounds("enough(v, 1)", 1, 16, v -> x -> x.enough(v, 1));
        twins.bounds("enough(16, v)", 1, 15, v -> x -> x.enough(16, v));
        due.promise("promise 26, NONE: not by 6; behind BEYOND");
        twins.refused("enough(1, 15)", NONE, x -> x.enough(1, 15));
        twins.refused("enough(1, 16)", BEYOND, x -> x.enough(1, 16));
        twins.refused("enough(0, 15)", BEYOND, x -> x.enough(0, 15));
    }

    private static void voices() {
        due.promise("promise 28, BEYOND");
        twins.bounds("voice(v, 0, 1)", 0, LAST_LINE, v -> x -> x.voice(v, 0, 1));
        twins.bounds("voice(0, v, 1)", 0, 3, v -> x -> x.voice(0, v, 1));
        due.promise("promise 29, NONE: there is none such");
        twins.taken("trace(0)", x -> x.trace(0));
        twins.taken("trace(8)", x -> x.trace(8));
        for (int i : new int[] {-1, 9, 39, 40, 41, Due.LEAST, Due.MOST}) {
            twins.refused("trace(" + i + ")", NONE, x -> x.trace(i));
        }
        twins.refused("trace(1) of a single BODY", NONE, x -> x.trace(1), x -> x.voice(0, 2, 1));
    }

    private static void sheets() {
        due.promise("promise 30, BEYOND");
        for (int bits : new int[] {0, 8, 16, 32}) {
            twins.bounds("sheet(v, " + bits + ", 3)", 0, 3, v -> x -> x.sheet(v, bits, 3));
            twins.refused("sheet(4, " + bits + ", -1)", BEYOND, x -> x.sheet(4, bits, -1));
            for (int near : new int[] {bits - 1, bits + 1, -bits - 1}) {
                twins.refused("sheet(0, " + near + ", 3)", BEYOND, x -> x.sheet(0, near, 3));
                twins.refused("sheet(0, " + near + ", -1)", BEYOND, x -> x.sheet(0, near, -1));
            }
        }
        for (int bits : new int[] {24, 64, Due.LEAST, Due.MOST}) {
            twins.refused("sheet(0, " + bits + ", 3)", BEYOND, x -> x.sheet(0, bits, 3));
        }
        due.promise("promise 30, STATE: n is below 0 (ahead of BEYOND of n); at most 40 numbers");
        for (int bits : new int[] {8, 16, 32}) {
            for (int n : new int[] {0, 1, 39, 40}) {
                twins.taken("sheet(0, " + bits + ", " + n + ")", x -> x.sheet(0, bits, n));
            }
            for (int n : new int[] {-1, -2, Due.LEAST}) {
                twins.refused("sheet(0, " + bits + ", " + n + ")", STATE, x -> x.sheet(0, bits, n));
                twins.refused("sheet(3, " + bits + ", " + n + ")", STATE, x -> x.sheet(3, bits, n));
            }
            for (int n : new int[] {41, 42, Due.MOST}) {
                twins.refused("sheet(0, " + bits + ", " + n + ")", BEYOND, x -> x.sheet(0, bits, n));
            }
        }
        due.promise("promise 30, 0: it is missing, n doesn't matter");
        for (int n : new int[] {Due.LEAST, -1, 0, 1, 40, 41, Due.MOST}) {
            twins.taken("sheet(0, 0, " + n + ")", x -> x.sheet(0, 0, n));
        }
    }

    private static void put() {
        due.promise("promise 31, BEYOND, NONE, BEYOND");
        twins.bounds("put(v, 1, 1)", 0, 3, v -> x -> x.put(v, 1, 1), x -> x.sheet(3, 8, 2));
        twins.bounds("put(0, v, 1)", 0, 2, v -> x -> x.put(0, v, 1));
        twins.bounds("put(1, v, 1)", 0, 3, v -> x -> x.put(1, v, 1));
        twins.bounds("put(2, v, 1)", 0, 4, v -> x -> x.put(2, v, 1));
        twins.bounds("put(0, v, 1) of 40", 0, 39, v -> x -> x.put(0, v, 1), x -> x.sheet(0, 8, 40));
        for (int i : new int[] {Due.LEAST, -1, 0, 1, Due.MOST}) {
            twins.refused("put(4, " + i + ", 1)", BEYOND, x -> x.put(4, i, 1));
            twins.refused("put(3, " + i + ", 1)", NONE, x -> x.put(3, i, 1));
            twins.refused("put(0, " + i + ", 1) of 0", BEYOND, x -> x.put(0, i, 1), x -> x.sheet(0, 8, 0));
            twins.refused("put(0, " + i + ", 1) of one that was", NONE, x -> x.put(0, i, 1), x -> x.sheet(0, 0, 3));
        }
    }

    private static void move() {
        due.promise("promise 32, BEYOND: no such SHEET");
        Act[] alike = {x -> x.sheet(0, 16, 3), x -> x.sheet(2, 16, 5), x -> x.sheet(3, 16, 4)};
        twins.bounds("move(v, 0, 1, 0, 1)", 0, 3, v -> x -> x.move(v, 0, 1, 0, 1), alike);
        twins.bounds("move(1, 0, v, 0, 1)", 0, 3, v -> x -> x.move(1, 0, v, 0, 1), alike);
        due.promise("promise 32, the order: BEYOND, NONE, KIND, BEYOND");
        int[][] last = {{0, 0, 1}, {-1, 0, 1}, {0, -1, 1}, {0, 0, -1}, {0, 0, 99}, {99, 0, 0}, {0, 99, 0}};
        for (int[] a : last) {
            String rest = "(i, j, n: " + a[0] + ", " + a[1] + ", " + a[2] + ")";
            twins.refused("move(4, 3) " + rest, BEYOND, x -> x.move(4, a[0], 3, a[1], a[2]));
            twins.refused("move(3, -1) " + rest, BEYOND, x -> x.move(3, a[0], -1, a[1], a[2]));
            twins.refused("move(3, 0) " + rest, NONE, x -> x.move(3, a[0], 0, a[1], a[2]));
            twins.refused("move(0, 3) " + rest, NONE, x -> x.move(0, a[0], 3, a[1], a[2]));
            twins.refused("move(3, 3) " + rest, NONE, x -> x.move(3, a[0], 3, a[1], a[2]));
            twins.refused("move(0, 1) " + rest, KIND, x -> x.move(0, a[0], 1, a[1], a[2]));
            twins.refused("move(1, 2) " + rest, KIND, x -> x.move(1, a[0], 2, a[1], a[2]));
            twins.refused("move(2, 0) " + rest, KIND, x -> x.move(2, a[0], 0, a[1], a[2]));
        }
        due.promise("promise 32, BEYOND: n, i, or j is below 0, or they don't stand there");
        // SHEET 1 has four numbers, SHEET 2 five then
        Act ahead = x -> x.sheet(2, 16, 5);
        for (int n = 0; n <= 4; n++) {
            int many = n;
            twins.bounds("move(1, v, 2, 0, " + n + ")", 0, 4 - n, v -> x -> x.move(1, v, 2, 0, many), ahead);
            twins.bounds("move(1, 0, 2, v, " + n + ")", 0, 5 - n, v -> x -> x.move(1, 0, 2, v, many), ahead);
            twins.bounds("move(2, v, 1, 0, " + n + ")", 0, 5 - n, v -> x -> x.move(2, v, 1, 0, many), ahead);
            twins.bounds("move(1, v, 1, 0, " + n + ")", 0, 4 - n, v -> x -> x.move(1, v, 1, 0, many));
        }
        twins.bounds("move(1, 0, 2, 0, v)", 0, 4, v -> x -> x.move(1, 0, 2, 0, v), ahead);
        twins.bounds("move(2, 0, 1, 0, v)", 0, 4, v -> x -> x.move(2, 0, 1, 0, v), ahead);
        twins.bounds("move(1, 3, 2, 0, v)", 0, 1, v -> x -> x.move(1, 3, 2, 0, v), ahead);
        twins.bounds("move(1, 4, 2, 5, v)", 0, 0, v -> x -> x.move(1, 4, 2, 5, v), ahead);
        twins.refused("move(1, most, 2, 0, most)", BEYOND, x -> x.move(1, Due.MOST, 2, 0, Due.MOST), ahead);
        twins.refused("move(1, 0, 2, most, most)", BEYOND, x -> x.move(1, 0, 2, Due.MOST, Due.MOST), ahead);
        twins.refused("move(1, -1, 2, 0, 0)", BEYOND, x -> x.move(1, -1, 2, 0, 0), ahead);
        twins.refused("move(1, 0, 2, -1, 0)", BEYOND, x -> x.move(1, 0, 2, -1, 0), ahead);
    }

    private static void rest() {
        due.promise("promises 33 and 34, BEYOND: no such SHEET. NONE: it is missing.");
        twins.bounds("mouths(v)", 0, 3, v -> x -> x.mouths(v), x -> x.sheet(3, 8, 2));
        twins.bounds("judge(v)", 0, 3, v -> x -> x.judge(v), x -> x.sheet(3, 8, 2));
        twins.refused("mouths(3)", NONE, x -> x.mouths(3));
        twins.refused("judge(3)", NONE, x -> x.judge(3));
        twins.refused("mouths(0) of one that was", NONE, x -> x.mouths(0), x -> x.sheet(0, 0, 3));
        twins.refused("judge(0) of one that was", NONE, x -> x.judge(0), x -> x.sheet(0, 0, 3));
        due.promise("promise 33, a number that is not 0 to 3 is no ERROR");
        for (int v : new int[] {-1, 4, 127, 128, 255}) {
            twins.taken("mouths(0) of " + v, x -> x.mouths(0), x -> x.put(0, 1, v));
        }
        due.promise("promise 37, FULL: 20 wait");
        // four wait
        twins.taken("tell(0), the twentieth", x -> x.tell(0), many(15, x -> x.tell(0)));
        twins.refused("tell(0), the twenty-first", FULL, x -> x.tell(0), many(16, x -> x.tell(0)));
        twins.refused("tell(1), the twenty-first", FULL, x -> x.tell(1), many(16, x -> x.tell(0)));
        twins.taken("tell(0) behind check()", x -> x.tell(0), x -> {
            for (int i = 0; i < 16; i++) {
                x.tell(0);
            }
            return x.check();
        });
        due.promise("promise 38, what isn't so is no ERROR");
        twins.taken("check()", x -> x.check(), x -> x.tell(9));
        due.promise("promise 39, BEYOND");
        twins.bounds("count(v)", 0, 10, v -> x -> x.count(v));
        due.promise("promise 40, BEYOND: another k (counted, too)");
        twins.bounds("told(v)", 1, 5, v -> x -> x.told(v));
    }

    private static void newObject() {
        due.promise("promise 1, what is refused of a new object");
        Twins first = new Twins(due, LipsThatFit::new);
        Act[] beyond = {x -> x.ofWord(0, 0), x -> x.ofLine(0, 0), x -> x.said(0, 0), x -> x.become(0, 0),
            x -> x.as(0, 0), x -> x.wanted(0, 0), x -> x.say(0, 0, 0, 0, 0), x -> x.best(0, 0, -2),
            x -> x.dearest(0, 0, -2), x -> x.heard(0, -2), x -> x.must(0), x -> x.forgotten(0),
            x -> x.voice(0, 0, 0)};
        Act[] none = {x -> x.trace(0), x -> x.put(0, 0, 0), x -> x.move(0, 0, 0, 0, 0), x -> x.mouths(0),
            x -> x.judge(0)};
        for (int i = 0; i < beyond.length; i++) {
            first.refused("call " + i + " of what isn't there", BEYOND, beyond[i]);
        }
        for (int i = 0; i < none.length; i++) {
            first.refused("call " + i + " of what is missing", NONE, none[i]);
        }
        due.promise("promise 36, NONE: there is none");
        first.refused("restore()", NONE, x -> x.restore());
        Act[] ahead = {x -> x.minutes(7), x -> x.mouth(0, 9, 2), x -> x.word(1, 1), x -> x.seed(4)};
        first.refused("restore() later", NONE, x -> x.restore(), ahead);
    }

    public static void main(String[] args) {
        newObject();
        mouths();
        words();
        lines();
        said();
        as();
        say();
        texts();
        minutes();
        rows();
        rowsByNone();
        wouldBe();
        voices();
        sheets();
        put();
        move();
        rest();
        due.end();
    }
}
