/** Promises 2 to 40: what a call that is not refused changes, and that it changes nothing else. */
public final class ChangesTest {
    private static final Due due = new Due();
    private static final Twins twins = new Twins(due, Twins::full);

    private static void film() {
        due.promise("promise 2");
        twins.changes("mouth(10, 3, 2)", x -> x.mouth(10, 3, 2), 3, "mouthAt(10)", "mouthAt(11)", "mouthAt(12)");
        twins.changes("mouth(59, 1, 3)", x -> x.mouth(59, 1, 3), 1, "mouthAt(59)");
        twins.changes("mouth(3, 4, 2), as it is", x -> x.mouth(3, 4, 2), 4);
        due.promise("promise 4");
        twins.changes("word(1, 2)", x -> x.word(1, 2), 3, "count(0)", "ofWord(3, 0)", "ofWord(3, 2)");
        due.promise("promise 6");
        twins.changes("line(25, 50, 2)", x -> x.line(25, 50, 2), 3, "count(1)", "count(4)", "count(6)", "ofLine(3, ");
        due.promise("promise 9");
        twins.changes("become(1, 27)", x -> x.become(1, 27), 6, "ofLine(1, 0)", "ofLine(1, 1)", "ofLine(1, 6)",
                "count(4)");
        twins.changes("become(0, 14), as it is", x -> x.become(0, 14), 1);
        due.promise("promise 11");
        twins.changes("wanted(1, 5)", x -> x.wanted(1, 5), 0, "ofLine(1, 4)", "ofLine(1, 7)", "count(5)");
        twins.changes("wanted(0, 90), as it is", x -> x.wanted(0, 90), 90);
        due.promise("promise 12");
        twins.changes("say(1, 1, 2, 9, 9)", x -> x.say(1, 1, 2, 9, 9), 0, "ofLine(1, 5)", "ofLine(1, 6)", "said(1, 0)",
                "count(4)");
        twins.changes("say(2, 0, 9, 9, 9)", x -> x.say(2, 0, 9, 9, 9), 5, "ofLine(2, 5)", "ofLine(2, 6)",
                "ofLine(2, 7)", "said(2, 0)", "said(2, 1)", "count(4)", "count(5)");
    }

    private static void texts() {
        due.promise("promise 13");
        twins.changes("feed('1', 1)", x -> x.feed('1', 1), 4, "count(7)", "THE TAPE's law(1)");
        due.promise("promise 14, a TEXT");
        twins.changes("text(1) of t+7", x -> x.text(1), 1, "law(1)", "count(7)", "THE TAPE's text(1)");
        due.promise("promise 14, a FAULT: no ERROR; the one ahead stays; THE TAPE is empty, too");
        twins.changes("text(0) of t+7", x -> x.text(0), -10, "count(7)", "THE TAPE's ");
        twins.changes("text(1) of t+7+", x -> {
            x.feed('+', 1);
            return x.text(1);
        }, -14, "count(7)", "THE TAPE's ");
    }

    private static void minutes() {
        due.promise("promise 16");
        twins.changes("minutes(2)", x -> x.minutes(2), 34, "count(2)");
        due.promise("promise 17");
        // all three LINES are NOTICED; the draws' rests by 4 are 2, 3, 0
        int laughs = Twins.full().count(3);
        int z = 77;
        for (int line = 0; line < 3; line++) {
            z = z * 1103515245 + 12345;
            laughs += (z >>> 8) % 4 != 0 ? 1 : 0;
        }
        twins.changes("matinees(1)", x -> x.matinees(1), laughs, "count(2)", "count(3)", "count(10)");
    }

    private static void thought() {
        due.promise("promises 18 to 22, 24 to 26: all this is only thought");
        for (int what = -2; what <= 0; what++) {
            int place = what;
            LipsThatFit x = Twins.full();
            twins.changes("best(0, 50, " + what + ")", y -> y.best(0, 50, place), x.best(0, 50, what));
            twins.changes("dearest(0, 99, " + what + ")", y -> y.dearest(0, 99, place), x.dearest(0, 99, what));
        }
        twins.changes("heard(1, -2)", x -> x.heard(1, -2), 1);
        twins.changes("heard(1, 0)", x -> x.heard(1, 0), 2);
        twins.changes("must(2)", x -> x.must(2), 31);
        twins.changes("forgotten(0)", x -> x.forgotten(0), 29);
        twins.changes("cast(-1)", x -> x.cast(-1), 41);
        twins.changes("cast(0)", x -> x.cast(0), 3);
        twins.changes("takes(8, 1, 1)", x -> x.takes(8, 1, 1), 2);
        twins.changes("enough(8, 9)", x -> x.enough(8, 9), 2);
    }

    private static void asked() {
        due.promise("what only tells");
        twins.changes("mouthAt(3)", x -> x.mouthAt(3), 2);
        twins.changes("ofWord(2, 2)", x -> x.ofWord(2, 2), 55);
        int[] ofLine = {1, 4, 2, 6, 90, 3};
        for (int what = 0; what <= 9; what++) {
            int place = what;
            int want = what < ofLine.length ? ofLine[what] : Twins.full().ofLine(0, what);
            twins.changes("ofLine(0, " + what + ")", x -> x.ofLine(0, place), want);
        }
        twins.changes("said(0, 1)", x -> x.said(0, 1), 0);
        twins.changes("as(0, 1)", x -> x.as(0, 1), 4);
        twins.changes("law(0, 1, 1, 1)", x -> x.law(0, 1, 1, 1), 3);
        twins.changes("law(1, 1, 1, 1)", x -> x.law(1, 1, 1, 1), -1);
        twins.changes("trace(8)", x -> x.trace(8), 12);
        twins.changes("judge(0)", x -> x.judge(0), 0);
        for (int what = 0; what <= 10; what++) {
            int place = what;
            twins.changes("count(" + what + ")", x -> x.count(place), Twins.full().count(what));
        }
        int[] told = {1, 0, 0, 0, 1};
        for (int k = 1; k <= 5; k++) {
            int kind = k;
            twins.changes("told(" + k + ")", x -> x.told(kind), told[k - 1]);
        }
    }

    private static void rest() {
        due.promise("promise 23");
        twins.changes("like(1, 2, 5)", x -> x.like(1, 2, 5), 33, "like(1, 2)");
        twins.changes("like(3, 0, 99)", x -> x.like(3, 0, 99), 0, "like(3, 0)");
        due.promise("promise 27");
        twins.changes("seed(5)", x -> x.seed(5), 77, "count(10)");
        due.promise("promise 28");
        twins.changes("voice(0, 2, 9)", x -> x.voice(0, 2, 9), 5, "count(9)", "trace(");
        due.promise("promises 30 to 32");
        twins.changes("sheet(0, 8, 3)", x -> x.sheet(0, 8, 3), 1, "SHEET 0's number 0",
                "SHEET 0's number 1", "SHEET 0's number 2");
        twins.changes("sheet(3, 8, 2)", x -> x.sheet(3, 8, 2), 1, "SHEET 3's ");
        twins.changes("sheet(0, 0, 2)", x -> x.sheet(0, 0, 2), 1, "SHEET 0's ");
        twins.changes("put(1, 1, 2)", x -> x.put(1, 1, 2), 1, "SHEET 1's number 1");
        twins.changes("move(1, 0, 1, 1, 2)", x -> x.move(1, 0, 1, 1, 2), 2, "SHEET 1's number 1", "SHEET 1's number 2");
        twins.changes("move(0, 1, 0, 1, 2), to where they are", x -> x.move(0, 1, 0, 1, 2), 2);
        due.promise("promise 33");
        twins.changes("mouths(0)", x -> x.mouths(0), 3, "mouthAt(0)", "mouthAt(1)", "mouthAt(2)", "check()",
                "ofLine(0, 6)", "count(4)");
        due.promise("promise 37");
        twins.changes("tell(5)", x -> x.tell(5), 5, "count(8)", "check()");
        due.promise("promise 38");
        twins.changes("check()", x -> x.check(), 0, "count(8)");
    }

    /** All but SHEETS, THE TRACE, told(), and how often image() was done. */
    private static void spoil(LipsThatFit x) {
        x.mouth(0, 60, 1);
        x.word(2, 99);
        x.say(0, 3, 0, 2, 3);
        x.say(1, 2, 2, 2, 0);
        x.line(0, 0, 9);
        for (int line = 0; line < 3; line++) {
            x.become(line, 51 - 20 * line);
            x.wanted(line, 4 + line);
        }
        x.text(1);
        Due.text(x, 0, "1");
        for (int i = 0; i < 16; i++) {
            x.like(i / 4, i % 4, 80 + i);
        }
        x.matinees(50);
        x.check();
        x.tell(5);
        x.tell(6);
        Due.feed(x, "ab");
    }

    private static void spoilTheRest(LipsThatFit x) {
        x.sheet(0, 8, 1);
        x.put(1, 1, 1);
        x.sheet(3, 32, 2);
        x.voice(0, 0, 0);
        x.as(0, 9);
    }

    private static void images() {
        due.promise("promise 35: all is kept, in place of one ahead");
        twins.changes("image()", x -> x.image(), 2, "image()", "restore()", "IMAGE's ");
        due.promise("promise 36: all is as the IMAGE has it");
        twins.changes("image(), other things, restore()", x -> {
            x.image();
            spoil(x);
            return x.restore();
        }, 32, "image()", "restore()", "IMAGE's ");
        due.promise("promise 35: but SHEETS, THE TRACE, what told() tells, and how often this was done");
        twins.changes("image(), SHEETS, a voice, an ERROR, restore()", x -> {
            x.image();
            spoilTheRest(x);
            return x.restore();
        }, 32, "image()", "restore()", "IMAGE's ", "SHEET 0's ", "SHEET 1's number 1", "SHEET 3's ", "count(9)",
                "trace(", "told(1)");
        due.promise("promise 36: the IMAGE stays");
        Twins restored = new Twins(due, () -> {
            LipsThatFit x = Twins.full();
            x.restore();
            return x;
        });
        restored.changes("restore() again", x -> x.restore(), 12);
        restored.changes("other things, restore() again", x -> {
            spoil(x);
            return x.restore();
        }, 12);
        due.promise("promise 36: an IMAGE of a new object");
        Twins first = new Twins(due, () -> {
            LipsThatFit x = new LipsThatFit();
            x.image();
            return x;
        });
        first.changes("all things, restore()", x -> {
            for (int i = 0; i < 3; i++) {
                x.word(123, 9);
                x.line(0, 0, 4);
                x.say(i, 1, i, 0, 0);
            }
            Due.text(x, 0, "7");
            Due.text(x, 1, "8");
            spoil(x);
            return x.restore();
        }, 0);
        due.promise("promise 35: how often that was done");
        LipsThatFit x = new LipsThatFit();
        for (int i = 1; i <= 5; i++) {
            due.due("image()", x.image(), i);
            due.due("restore()", x.restore(), 0);
        }
    }

    public static void main(String[] args) {
        film();
        texts();
        minutes();
        thought();
        asked();
        rest();
        images();
        due.end();
    }
}
