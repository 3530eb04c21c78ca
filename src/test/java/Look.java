import java.util.ArrayList;
import java.util.LinkedHashMap;
import java.util.List;
import java.util.Map;

/** All that calls can see of an object, each answer by its call. The object is used up by it. */
final class Look {
    private final LipsThatFit x;
    private final Map<String, Long> seen = new LinkedHashMap<>();
    private String when = "";

    Look(LipsThatFit object) {
        x = object;
        for (int k = 1; k <= 5; k++) {
            see("told(" + k + ")", x.told(k));
        }
        see("count(9)", x.count(9));
        for (int i = 0; i < value("count(9)"); i++) {
            see("trace(" + i + ")", x.trace(i));
        }
        all(60);
        for (int sheet = 0; sheet < 4; sheet++) {
            sheet(sheet);
        }
        see("restore()", x.restore());
        when = "IMAGE's ";
        // enough to tell one MOUTH more from one less
        all(12);
        when = "";
        see("image()", x.image());
    }

    private void see(String call, long answer) {
        seen.put(when + call, answer);
    }

    private long value(String call) {
        return seen.get(when + call);
    }

    /** What an IMAGE keeps, with MOUTHS of the first TENTHS. */
    private void all(int tenths) {
        for (int what = 0; what <= 10; what++) {
            if (what != 9) {
                see("count(" + what + ")", x.count(what));
            }
        }
        for (int tenth = 0; tenth < tenths; tenth++) {
            see("mouthAt(" + tenth + ")", x.mouthAt(tenth));
        }
        for (int word = 0; word < value("count(0)"); word++) {
            see("ofWord(" + word + ", 0)", x.ofWord(word, 0));
            see("ofWord(" + word + ", 2)", x.ofWord(word, 2));
        }
        for (int line = 0; line < value("count(1)"); line++) {
            line(line);
        }
        see("law(0)", x.law(0, 3, 2, 1));
        see("law(1)", x.law(1, 30, 4, 7));
        see("check()", x.check());
        // what is on THE TAPE is told by what it is as a TEXT
        see("THE TAPE's text(1)", x.text(1));
        see("THE TAPE's law(1)", x.law(1, 30, 4, 7));
        for (int i = 0; i < 16; i++) {
            see("like(" + i / 4 + ", " + i % 4 + ")", x.like(i / 4, i % 4, 0));
        }
    }

    private void line(int line) {
        for (int what = 0; what <= 8; what++) {
            see("ofLine(" + line + ", " + what + ")", x.ofLine(line, what));
        }
        for (int i = 0; i < value("ofLine(" + line + ", 5)"); i++) {
            see("said(" + line + ", " + i + ")", x.said(line, i));
        }
    }

    /** How many numbers, which ones (if they are 0 to 3), and of how many bits. */
    private void sheet(int sheet) {
        String of = "SHEET " + sheet + "'s ";
        see(of + "size", x.mouths(sheet));
        for (int i = 0; i < value(of + "size"); i++) {
            see(of + "number " + i, x.mouthAt(i));
        }
        if (value(of + "size") > 0) {
            x.put(sheet, 0, 256);
            see(of + "numbers up to 256", x.mouths(sheet));
            x.put(sheet, 0, 65536);
            see(of + "numbers up to 65536", x.mouths(sheet));
        }
    }

    /** How many answers there are. */
    int size() {
        return seen.size();
    }

    /** The calls that another object answers otherwise. */
    List<String> unlike(Look other) {
        List<String> calls = new ArrayList<>(seen.keySet());
        for (String call : other.seen.keySet()) {
            if (!seen.containsKey(call)) {
                calls.add(call);
            }
        }
        calls.removeIf(call -> seen.containsKey(call) && seen.get(call).equals(other.seen.get(call)));
        return calls;
    }
}
