import java.lang.reflect.Array;
import java.util.ArrayList;
import java.util.Arrays;
import java.util.List;

/** The document once more, sentence by sentence, with all of Java and no thought of cost: what is due of each call. */
final class Plain {
    private static final int BEYOND = 1;
    private static final int NONE = 2;
    private static final int STATE = 3;
    private static final int FULL = 4;
    private static final int KIND = 5;
    private static final int HIDDEN = 3;

    /** An ERROR LOW - k. */
    private static final class Refused extends RuntimeException {
        private static final long serialVersionUID = 1;
        final int k;

        Refused(int itsK) {
            k = itsK;
        }
    }

    private record Word(int syllables, int sense) {
        String digits() {
            return String.valueOf(syllables);
        }
    }

    private record Line(int km, int begin, int lasts, int wanted, List<Integer> row) {
        Spoken kind(int number) {
            return Spoken.of(km / 10, km % 10, number);
        }
    }

    /** All that an IMAGE keeps. */
    private static final class World {
        final int[] film;
        final List<Word> words;
        final List<Line> lines;
        final List<Integer> likes;
        final List<Integer> waiting;
        final PlainText[] texts;
        String tape = "";
        int minute = 0;
        int laughs = 0;
        int z = 1;

        World() {
            film = new int[60];
            words = new ArrayList<>();
            lines = new ArrayList<>();
            likes = new ArrayList<>();
            waiting = new ArrayList<>();
            texts = new PlainText[2];
            for (int i = 0; i < 16; i++) {
                likes.add(0);
            }
        }

        World(World other) {
            film = other.film.clone();
            words = new ArrayList<>(other.words);
            lines = new ArrayList<>(other.lines);
            likes = new ArrayList<>(other.likes);
            waiting = new ArrayList<>(other.waiting);
            texts = other.texts.clone();
            tape = other.tape;
            minute = other.minute;
            laughs = other.laughs;
            z = other.z;
        }
    }

    private World now = new World();
    private World kept = null;
    private int images = 0;
    private List<Integer> trace = List.of();
    private final Object[] sheets = new Object[4];
    private final int[] told = new int[6];

    /** What is due of a call, which is told by its name. */
    long call(String name, long... a) {
        int[] n = Arrays.stream(a).mapToInt(v -> (int) v).toArray();
        try {
            return switch (name) {
                case "mouth", "mouthAt", "word", "ofWord", "line", "ofLine", "said", "become", "as", "wanted", "say" ->
                    film(name, n);
                case "feed" -> feed(a[0], n[1]);
                case "text" -> text(n[0]);
                case "law" -> law(n[0], n[1], n[2], n[3]);
                case "minutes", "matinees" -> minutes(name.equals("matinees"), n[0]);
                case "best", "dearest", "heard", "must", "forgotten", "like", "cast", "takes", "enough" ->
                    wouldBe(name, n);
                case "sheet", "put", "move", "mouths", "judge" -> sheets(name, n);
                default -> rest(name, n);
            };
        } catch (Refused refused) {
            told[refused.k]++;
            return Due.LOW - refused.k;
        }
    }

    private static void refuse(boolean refused, int k) {
        if (refused) {
            throw new Refused(k);
        }
    }

    private static void within(int v, int least, int most) {
        refuse(v < least || v > most, BEYOND);
    }

    private Line line(int line) {
        within(line, 0, now.lines.size() - 1);
        return now.lines.get(line);
    }

    // ---- the film, words, lines

    private long film(String name, int[] a) {
        switch (name) {
            case "mouth":
                within(a[0], 0, 59);
                within(a[1], 1, 60);
                within(a[0] + a[1], 1, 60);
                within(a[2], 0, HIDDEN);
                Arrays.fill(now.film, a[0], a[0] + a[1], a[2]);
                return a[1];
            case "mouthAt":
                within(a[0], 0, 59);
                return now.film[a[0]];
            case "word":
                refuse(!String.valueOf(a[0]).matches("[123]{1,5}"), BEYOND);
                within(a[1], 0, 99);
                refuse(now.words.size() == 10, FULL);
                now.words.add(new Word(a[0], a[1]));
                return now.words.size() - 1;
            case "ofWord":
                within(a[0], 0, now.words.size() - 1);
                within(a[1], 0, 2);
                Word word = now.words.get(a[0]);
                return new int[] {word.syllables, word.digits().length(), word.sense}[a[1]];
            case "line":
                within(a[0], 0, 69);
                within(a[1], 0, 59);
                within(a[2], 1, 15);
                within(a[1] + a[2], 1, 60);
                refuse(now.lines.size() == 6, FULL);
                now.lines.add(new Line(a[0], a[1], a[2], 0, List.of()));
                return now.lines.size() - 1;
            default:
                return line(name, line(a[0]), a);
        }
    }

    private long line(String name, Line line, int[] a) {
        switch (name) {
            case "ofLine":
                within(a[1], 0, 9);
                return new int[] {line.km / 10, line.km % 10, line.begin, line.lasts, line.wanted, line.row.size(),
                    off(line, line.row), loss(line, line.row), isNoticed(line, now.minute) ? 1 : 0,
                    line.kind(0).endsBy(2)}[a[1]];
            case "said":
                within(a[1], 0, 2);
                refuse(a[1] >= line.row.size(), NONE);
                return line.row.get(a[1]);
            case "become":
                within(a[1], 0, 69);
                now.lines.set(a[0], new Line(a[1], line.begin, line.lasts, line.wanted, line.row));
                return line.km / 10;
            case "as":
                within(a[1], 0, 6);
                refuse(!line.kind(0).is(a[1]), KIND);
                return line.km % 10;
            case "wanted":
                within(a[1], 0, 99);
                now.lines.set(a[0], new Line(line.km, line.begin, line.lasts, a[1], line.row));
                return line.wanted;
            default:
                within(a[1], 0, 3);
                List<Integer> row = new ArrayList<>();
                for (int i = 0; i < a[1]; i++) {
                    within(a[2 + i], 0, now.words.size() - 1);
                    row.add(a[2 + i]);
                }
                now.lines.set(a[0], new Line(line.km, line.begin, line.lasts, line.wanted, row));
                return off(line, row);
        }
    }

    private String syllables(List<Integer> row) {
        StringBuilder syllables = new StringBuilder();
        row.forEach(word -> syllables.append(now.words.get(word).digits()));
        return syllables.toString();
    }

    private int off(Line line, List<Integer> row) {
        String syllables = syllables(row);
        Spoken kind = line.kind(0);
        int off = 0;
        for (int n = 0; n < line.lasts && n < syllables.length(); n++) {
            int mouth = now.film[line.begin + n];
            off += mouth == HIDDEN ? 0 : kind.seen((int) law(0, mouth, syllables.charAt(n) - '1', n));
        }
        return off + kind.endsBy(Math.abs(syllables.length() - line.lasts));
    }

    private int loss(Line line, List<Integer> row) {
        return Math.max(0, line.wanted - row.stream().mapToInt(word -> now.words.get(word).sense).sum());
    }

    private boolean isNoticed(Line line, int minute) {
        return law(1, off(line, line.row), loss(line, line.row), minute) != 0;
    }

    // ---- texts, minutes

    private long feed(long word, int n) {
        within(n, 1, 8);
        refuse(now.tape.length() + n > 50, FULL);
        for (int i = 0; i < n; i++) {
            now.tape += (char) (word >>> 8 * i & 255);
        }
        return now.tape.length();
    }

    private long text(int use) {
        within(use, 0, 1);
        String text = now.tape;
        now.tape = "";
        String names = use == 0 ? "fwn" : "olt";
        int fault = PlainText.faultOf(text, names);
        if (fault >= 0) {
            return -10 - fault;
        }
        now.texts[use] = PlainText.of(text, names);
        return 1;
    }

    private long law(int use, int a, int b, int c) {
        within(use, 0, 1);
        PlainText text = now.texts[use];
        if (use == 1) {
            return text != null ? text.of(a, b, c) : a > 3 + c / 10 ? 1 : 0;
        }
        return text != null ? Math.max(0, Math.min(99, text.of(a, b, c))) : a == b ? 0 : a == 0 || b == 0 ? 5 : 1;
    }

    private long minutes(boolean matinees, int n) {
        within(n, 1, matinees ? 100 : 500);
        refuse(now.minute + n > 9999, STATE);
        if (!matinees) {
            now.minute += n;
            return now.minute;
        }
        for (int i = 0; i < n; i++) {
            for (Line line : now.lines) {
                now.z = now.z * 1103515245 + 12345;
                if ((now.z >>> 8) % 4 != 0 && isNoticed(line, now.minute)) {
                    now.laughs = Math.min(9999, now.laughs + 1);
                }
            }
            now.minute++;
        }
        return now.laughs;
    }

    // ---- what would be

    private long wouldBe(String name, int[] a) {
        switch (name) {
            case "best", "dearest", "heard":
                return found(name, line(a[0]), a[1], a[a.length - 1]);
            case "must":
                return must(line(a[0]));
            case "forgotten":
                Line line = line(a[0]);
                int behind = 0;
                while (behind <= 500 && isNoticed(line, now.minute + behind)) {
                    behind++;
                }
                refuse(behind > 500, NONE);
                return behind;
            case "like":
                within(a[0], 0, 3);
                within(a[1], 0, 3);
                within(a[2], 0, 99);
                return now.likes.set(4 * a[0] + a[1], a[2]);
            case "cast":
                within(a[0], -1, 3);
                List<Integer> cast = cast(List.of());
                return a[0] < 0 ? likes(cast) : cast.get(a[0]);
            default:
                return odds(name, a);
        }
    }

    /** All ROWS of 1 to 3 WORDS, those of fewer WORDS ahead, then in their order as rows. */
    private List<List<Integer>> rows() {
        List<List<Integer>> rows = new ArrayList<>(List.of(List.of()));
        for (int i = 0; i < rows.size() && rows.get(i).size() < 3; i++) {
            for (int word = 0; word < now.words.size(); word++) {
                List<Integer> row = new ArrayList<>(rows.get(i));
                row.add(word);
                rows.add(row);
            }
        }
        return rows.subList(1, rows.size());
    }

    private long found(String name, Line line, int v, int what) {
        boolean heard = name.equals("heard");
        refuse(!heard && (v < 0 || v > 99), BEYOND);
        within(what, -2, 2);
        List<Integer> first = null;
        int least = Due.MOST;
        int many = 0;
        for (List<Integer> row : rows()) {
            int off = off(line, row);
            int loss = loss(line, row);
            boolean taken = heard ? isHeard(line, row) : name.equals("best") ? loss <= v : off <= v;
            int worth = heard ? 0 : name.equals("best") ? off : loss;
            many += taken ? 1 : 0;
            if (taken && worth < least) {
                least = worth;
                first = row;
            }
        }
        if (heard && what == -2) {
            return many;
        }
        refuse(first == null || what >= first.size(), NONE);
        return what == -2 ? least : what == -1 ? first.size() : first.get(what);
    }

    private boolean isHeard(Line line, List<Integer> row) {
        String syllables = syllables(row);
        boolean heard = syllables.length() == line.lasts;
        for (int n = 0; n < line.lasts && heard; n++) {
            int mouth = now.film[line.begin + n];
            heard = mouth == HIDDEN || mouth == syllables.charAt(n) - '1';
        }
        return heard;
    }

    private long must(Line line) {
        int set = 0;
        for (int n = 0; n < line.lasts; n++) {
            int mouth = now.film[line.begin + n];
            if (mouth != HIDDEN && line.kind(0).seen((int) law(0, mouth, 1, n)) != 0) {
                set += 1 << n;
            }
        }
        return set;
    }

    /** The best that begins with these VOICES. */
    private List<Integer> cast(List<Integer> voices) {
        List<Integer> best = voices.size() == 4 ? voices : null;
        for (int voice = 0; voice < 4 && voices.size() < 4; voice++) {
            if (!voices.contains(voice)) {
                List<Integer> more = new ArrayList<>(voices);
                more.add(voice);
                List<Integer> cast = cast(more);
                best = best == null || likes(cast) > likes(best) ? cast : best;
            }
        }
        return best;
    }

    private int likes(List<Integer> cast) {
        int likes = 0;
        for (int face = 0; face < 4; face++) {
            likes += now.likes.get(4 * face + cast.get(face));
        }
        return likes;
    }

    private static long odds(String name, int[] a) {
        within(a[0], 1, 16);
        if (name.equals("takes")) {
            within(a[1], 0, 6);
            within(a[2], 0, 1);
            long all = 1L << 4 * a[1];
            long good = all - Math.round(Math.pow(16 - a[0], a[1]));
            long both = gcd(good, all);
            return a[2] == 0 ? good / both : all / both;
        }
        within(a[1], 1, 15);
        int n = 1;
        // doubles hold all of these numbers just as they are
        while (n <= 6 && 1 - Math.pow((16 - a[0]) / 16.0, n) < a[1] / 16.0) {
            n++;
        }
        refuse(n > 6, NONE);
        return n;
    }

    private static long gcd(long a, long b) {
        return b == 0 ? a : gcd(b, a % b);
    }

    // ---- sheets

    private Object sheet(int sheet) {
        within(sheet, 0, 3);
        refuse(sheets[sheet] == null, NONE);
        return sheets[sheet];
    }

    private long sheets(String name, int[] a) {
        switch (name) {
            case "sheet":
                within(a[0], 0, 3);
                refuse(!List.of(0, 8, 16, 32).contains(a[1]), BEYOND);
                refuse(a[1] != 0 && a[2] < 0, STATE);
                refuse(a[1] != 0 && a[2] > 40, BEYOND);
                sheets[a[0]] = a[1] == 0 ? null : a[1] == 8 ? new byte[a[2]] : a[1] == 16 ? new short[a[2]] : new int[a[2]];
                return 1;
            case "put":
                within(a[1], 0, Array.getLength(sheet(a[0])) - 1);
                if (sheets[a[0]] instanceof byte[] bytes) {
                    bytes[a[1]] = (byte) a[2];
                } else if (sheets[a[0]] instanceof short[] shorts) {
                    shorts[a[1]] = (short) a[2];
                } else {
                    Array.setInt(sheets[a[0]], a[1], a[2]);
                }
                return 1;
            case "move":
                return move(a);
            case "mouths":
                int size = Array.getLength(sheet(a[0]));
                for (int i = 0; i < size; i++) {
                    int number = Array.getInt(sheets[a[0]], i);
                    if (number < 0 || number > HIDDEN) {
                        return i;
                    }
                    now.film[i] = number;
                }
                return size;
            default:
                List<Integer> offs = now.lines.stream().map(line -> off(line, line.row)).toList();
                List<Integer> numbers = new ArrayList<>();
                for (int i = 0; i < Array.getLength(sheet(a[0])); i++) {
                    numbers.add(Array.getInt(sheets[a[0]], i));
                }
                int alike = 0;
                while (alike < Math.min(offs.size(), numbers.size()) && offs.get(alike).equals(numbers.get(alike))) {
                    alike++;
                }
                return offs.equals(numbers) ? -1 : alike;
        }
    }

    private long move(int[] a) {
        within(a[0], 0, 3);
        within(a[2], 0, 3);
        Object from = sheet(a[0]);
        Object to = sheet(a[2]);
        refuse(from.getClass() != to.getClass(), KIND);
        within(a[4], 0, 40);
        within(a[1], 0, Array.getLength(from) - a[4]);
        within(a[3], 0, Array.getLength(to) - a[4]);
        System.arraycopy(from, a[1], to, a[3], a[4]);
        return a[4];
    }

    // ---- draws, voices, images, what is told

    private long rest(String name, int[] a) {
        switch (name) {
            case "seed":
                int was = now.z;
                now.z = a[0];
                return was;
            case "voice":
                Spoken spoken = line(a[0]).kind(a[0]);
                within(a[1], 0, 3);
                trace = spoken.trace;
                return spoken.act(a[1], a[2]);
            case "trace":
                refuse(a[0] < 0 || a[0] >= Math.min(40, trace.size()), NONE);
                return trace.get(a[0]);
            case "image":
                kept = new World(now);
                images++;
                return images;
            case "restore":
                refuse(kept == null, NONE);
                now = new World(kept);
                return now.minute;
            case "tell":
                refuse(now.waiting.size() == 20, FULL);
                now.waiting.add(a[0]);
                return now.waiting.size();
            case "check":
                List<Integer> waited = new ArrayList<>(now.waiting);
                now.waiting.clear();
                int place = 0;
                while (place < waited.size() && waited.get(place) == now.film[place]) {
                    place++;
                }
                return place == waited.size() ? 0 : 1 + place;
            case "count":
                within(a[0], 0, 10);
                return new int[] {now.words.size(), now.lines.size(), now.minute, now.laughs,
                    now.lines.stream().mapToInt(line -> off(line, line.row)).sum(),
                    now.lines.stream().mapToInt(line -> loss(line, line.row)).sum(),
                    (int) now.lines.stream().filter(line -> isNoticed(line, now.minute)).count(),
                    now.tape.length(), now.waiting.size(), Math.min(40, trace.size()), now.z}[a[0]];
            case "told":
                within(a[0], 1, 5);
                return told[a[0]];
            default:
                throw new IllegalStateException("no such call: " + name);
        }
    }
}
