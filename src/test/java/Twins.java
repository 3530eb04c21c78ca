import java.util.List;
import java.util.Set;
import java.util.TreeSet;
import java.util.function.IntFunction;
import java.util.function.Supplier;

/** Two objects of one life, of which one gets a call more: what is unlike then, the call has changed. */
final class Twins {
    private static final int MOST_CALLS = 512;
    /** How many calls full() takes, or more. */
    private static final int LIFE = 120;

    private final Due due;
    private final Supplier<LipsThatFit> life;

    Twins(Due itsDue, Supplier<LipsThatFit> itsLife) {
        due = itsDue;
        life = itsLife;
    }

    /** An object that holds something of all that one can hold, with room for more; its IMAGE has other things. */
    static LipsThatFit full() {
        LipsThatFit x = new LipsThatFit();
        x.mouth(3, 4, 2);
        x.mouth(20, 2, 3);
        x.word(123, 40);
        x.word(31, 7);
        x.word(2, 55);
        x.line(14, 2, 6);
        x.line(66, 20, 3);
        x.wanted(0, 90);
        x.say(0, 2, 1, 0, 0);
        Due.text(x, 0, "f*5+w+n");
        Due.text(x, 1, "o-l+t");
        x.like(1, 2, 33);
        x.minutes(3);
        x.matinees(9);
        x.tell(0);
        Due.feed(x, "t");
        x.image();
        Due.text(x, 1, "+o-l*3");
        x.mouth(45, 5, 1);
        x.line(0, 45, 5);
        x.wanted(2, 60);
        x.say(0, 3, 1, 0, 1);
        x.say(2, 2, 2, 0, 0);
        Due.text(x, 0, "f+w+w");
        x.like(0, 3, 8);
        x.minutes(20);
        x.seed(77);
        x.tell(0);
        x.tell(0);
        x.tell(2);
        Due.feed(x, "t+7");
        x.sheet(0, 8, 3);
        x.sheet(1, 16, 4);
        x.sheet(2, 32, 5);
        for (int i = 0; i < 3; i++) {
            x.put(0, i, (i + 1) % 4);
            x.put(1, i, (i + 2) % 4);
            x.put(2, i, (i + 3) % 4);
        }
        x.voice(1, 3, 1);
        x.as(0, 9);
        x.as(0, 2);
        return x;
    }

    private LipsThatFit after(Act... ahead) {
        LipsThatFit x = life.get();
        for (Act act : ahead) {
            act.on(x);
        }
        return x;
    }

    private List<String> unlike(String call, LipsThatFit one, LipsThatFit other, int calls) {
        Look look = new Look(one);
        due.due(call + ": calls above 512", Math.max(0, LIFE + calls + look.size() - MOST_CALLS), 0);
        return look.unlike(new Look(other));
    }

    /** A call that is refused by the ERROR LOW - k: told(k) is one more, and all else is as it was. */
    void refused(String call, int k, Act act, Act... ahead) {
        LipsThatFit one = after(ahead);
        LipsThatFit other = after(ahead);
        due.due(call, act.on(one), Due.LOW - k);
        due.due("told(" + k + ") behind " + call, one.told(k), other.told(k) + 1);
        due.same("what has changed by " + call, unlike(call, one, other, ahead.length).toString(), "[told(" + k + ")]");
    }

    /** A call that is not refused: what it changes is what begins so, and something begins so of each. */
    void changes(String call, Act act, long answer, String... begins) {
        LipsThatFit one = after();
        due.due(call, act.on(one), answer);
        Set<String> want = new TreeSet<>(List.of(begins));
        Set<String> changed = new TreeSet<>();
        for (String label : unlike(call, one, after(), 1)) {
            String begin = label;
            for (String each : begins) {
                begin = label.startsWith(each) ? each : begin;
            }
            changed.add(begin);
        }
        due.same("what has changed by " + call, changed.toString(), want.toString());
    }

    /** A call with a number that is refused (BEYOND) below the least one and above the most one, and only then. */
    void bounds(String call, int least, int most, IntFunction<Act> calls, Act... ahead) {
        for (int v : new int[] {least, Math.min(least + 1, most), Math.max(most - 1, least), most}) {
            taken(call + " by " + v, calls.apply(v), ahead);
        }
        for (int v : new int[] {least - 1, most + 1, Due.LEAST, Due.MOST}) {
            refused(call + " by " + v, 1, calls.apply(v), ahead);
        }
    }

    /** A call that answers no ERROR. */
    void taken(String call, Act act, Act... ahead) {
        LipsThatFit x = after(ahead);
        int told = toldAll(x);
        act.on(x);
        due.due("ERRORS by " + call, toldAll(x) - told, 0);
    }

    private static int toldAll(LipsThatFit x) {
        return x.told(1) + x.told(2) + x.told(3) + x.told(4) + x.told(5);
    }
}
