/** A film's mouths, the lines that are said to them, and who notices that they don't fit. */
public final class LipsThatFit {
    private static final int LOW = -1000000000;
    private static final int BEYOND = 1;
    private static final int NONE = 2;
    private static final int STATE = 3;
    private static final int FULL = 4;
    private static final int KIND = 5;

    private static final int CLOSED = 0;
    private static final int ROUND = 1;
    private static final int HIDDEN = 3;

    private static final int LINE = 0;
    private static final int NEAR = 1;
    private static final int FAR = 2;
    private static final int TURNED = 3;
    private static final int LAUGHED = 4;
    private static final int NAMED = 5;
    private static final int BREATHED = 6;
    /** The KIND above each KIND; none is above LINE. */
    private static final int[] ABOVE = {-1, LINE, LINE, LINE, NEAR, FAR, TURNED};

    private static final int FITS = 0;
    private static final int SAYS = 1;
    private static final int ENDS = 2;
    private static final int TELLS = 3;

    private static final int APART = 0;
    private static final int NOTICE = 1;

    private static final int BEST = 0;
    private static final int DEAREST = 1;
    private static final int HEARD = 2;

    private static final int TENTHS = 60;
    private static final int MOST_WORDS = 10;
    private static final int MOST_SYLLABLES = 5;
    private static final int MOST_LINES = 6;
    private static final int MOST_LASTS = 15;
    private static final int MOST_SAID = 3;
    private static final int MOST_BYTES = 50;
    private static final int MOST_WAITING = 20;
    private static final int MOST_SHEETS = 4;
    private static final int MOST_NUMBERS = 40;
    private static final int MOST_TRACE = 40;
    private static final int LAST_MINUTE = 9999;
    private static final int MOST_LAUGHS = 9999;
    private static final int FACES = 4;
    private static final int MOST_TAKES = 6;

    private final World now = new World();
    private final World kept = new World();
    private final Search search = new Search(now);
    private final Reader reader = new Reader();
    private final Stage stage = new Stage();
    private final Sheets sheets = new Sheets();
    private final int[] errors = new int[KIND + 1];
    private int images = 0;

    public LipsThatFit() {
    }

    // ---- the film, words, lines

    public int mouth(int tenth, int n, int v) {
        if (!within(tenth, 0, TENTHS - 1) || !within(n, 1, TENTHS - tenth) || !within(v, 0, HIDDEN)) {
            return error(BEYOND);
        }
        for (int i = 0; i < n; i++) {
            now.setFilm(tenth + i, v);
        }
        return n;
    }

    public int mouthAt(int tenth) {
        return within(tenth, 0, TENTHS - 1) ? now.filmAt(tenth) : error(BEYOND);
    }

    public int word(int syllables, int sense) {
        if (!areSyllables(syllables) || !within(sense, 0, 99)) {
            return error(BEYOND);
        }
        if (now.wordCount >= MOST_WORDS) {
            return error(FULL);
        }
        now.words[now.wordCount].spell(syllables, sense);
        now.wordCount++;
        return now.wordCount - 1;
    }

    public int ofWord(int word, int what) {
        if (!within(word, 0, now.wordCount - 1) || !within(what, 0, 2)) {
            return error(BEYOND);
        }
        Word of = now.words[word];
        return what == 0 ? of.digits : what == 1 ? of.length : of.sense;
    }

    public int line(int km, int begin, int lasts) {
        if (!isKindAndNumber(km) || !within(begin, 0, TENTHS - 1)
                || !within(lasts, 1, Math.min(MOST_LASTS, TENTHS - begin))) {
            return error(BEYOND);
        }
        if (now.lineCount >= MOST_LINES) {
            return error(FULL);
        }
        now.lines[now.lineCount].begin(km, begin, lasts);
        now.lineCount++;
        return now.lineCount - 1;
    }

    public int ofLine(int line, int what) {
        if (!isLine(line) || !within(what, 0, 9)) {
            return error(BEYOND);
        }
        Line of = now.lines[line];
        switch (what) {
            case 0: return of.kind;
            case 1: return of.m;
            case 2: return of.begin;
            case 3: return of.lasts;
            case 4: return of.wanted;
            case 5: return of.size;
            case 6: return now.off(of);
            case 7: return now.loss(of);
            case 8: return now.noticeBy(now.off(of), now.loss(of), now.minute) != 0 ? 1 : 0;
            default: return endsOf(of.kind, of.m, 2);
        }
    }

    public int said(int line, int i) {
        if (!isLine(line) || !within(i, 0, MOST_SAID - 1)) {
            return error(BEYOND);
        }
        Line of = now.lines[line];
        return i < of.size ? of.row[i] : error(NONE);
    }

    public int become(int line, int km) {
        if (!isLine(line) || !isKindAndNumber(km)) {
            return error(BEYOND);
        }
        int was = now.lines[line].kind;
        now.lines[line].setKind(km);
        return was;
    }

    public int as(int line, int kind) {
        if (!isLine(line) || !within(kind, LINE, BREATHED)) {
            return error(BEYOND);
        }
        Line of = now.lines[line];
        return isUnder(of.kind, kind) ? of.m : error(KIND);
    }

    public int wanted(int line, int v) {
        if (!isLine(line) || !within(v, 0, 99)) {
            return error(BEYOND);
        }
        int was = now.lines[line].wanted;
        now.lines[line].wanted = v;
        return was;
    }

    public int say(int line, int n, int a, int b, int c) {
        if (!isLine(line) || !within(n, 0, MOST_SAID) || !areWords(n, a, b, c)) {
            return error(BEYOND);
        }
        now.lines[line].setRow(n, a, b, c);
        return now.off(now.lines[line]);
    }

    // ---- texts

    public int feed(long word, int n) {
        if (!within(n, 1, 8)) {
            return error(BEYOND);
        }
        if (now.tapeSize + n > MOST_BYTES) {
            return error(FULL);
        }
        for (int i = 0; i < n; i++) {
            now.addByte((int) (word >>> (8 * i)) & 255);
        }
        return now.tapeSize;
    }

    public int text(int use) {
        if (!within(use, APART, NOTICE)) {
            return error(BEYOND);
        }
        int fault = reader.read(now.tape, now.tapeSize, use);
        now.tapeSize = 0;
        if (fault >= 0) {
            return -10 - fault;
        }
        now.textOf(use).hold(reader.code, reader.size);
        return 1;
    }

    public int law(int use, int a, int b, int c) {
        if (!within(use, APART, NOTICE)) {
            return error(BEYOND);
        }
        return use == APART ? now.apartBy(a, b, c) : now.noticeBy(a, b, c);
    }

    // ---- minutes

    public int minutes(int n) {
        if (!within(n, 1, 500)) {
            return error(BEYOND);
        }
        if (now.minute + n > LAST_MINUTE) {
            return error(STATE);
        }
        now.minute += n;
        return now.minute;
    }

    public int matinees(int n) {
        if (!within(n, 1, 100)) {
            return error(BEYOND);
        }
        if (now.minute + n > LAST_MINUTE) {
            return error(STATE);
        }
        now.weighLines();
        for (int i = 0; i < n; i++) {
            now.matinee();
        }
        return now.laughs;
    }

    // ---- what would be

    public int best(int line, int v, int what) {
        if (!isLine(line) || !within(v, 0, 99) || !within(what, -2, MOST_SAID - 1)) {
            return error(BEYOND);
        }
        search.find(now.lines[line], BEST, v);
        return ofFound(what);
    }

    public int dearest(int line, int v, int what) {
        if (!isLine(line) || !within(v, 0, 99) || !within(what, -2, MOST_SAID - 1)) {
            return error(BEYOND);
        }
        search.find(now.lines[line], DEAREST, v);
        return ofFound(what);
    }

    public int heard(int line, int what) {
        if (!isLine(line) || !within(what, -2, MOST_SAID - 1)) {
            return error(BEYOND);
        }
        search.find(now.lines[line], HEARD, 0);
        return what == -2 ? search.many : ofFound(what);
    }

    public int must(int line) {
        if (!isLine(line)) {
            return error(BEYOND);
        }
        Line of = now.lines[line];
        int set = 0;
        for (int i = 0; i < of.lasts; i++) {
            if (now.seenAt(of, i, ROUND) != 0) {
                set |= 1 << i;
            }
        }
        return set;
    }

    public int forgotten(int line) {
        if (!isLine(line)) {
            return error(BEYOND);
        }
        int off = now.off(now.lines[line]);
        int loss = now.loss(now.lines[line]);
        for (int i = 0; i <= 500; i++) {
            if (now.noticeBy(off, loss, now.minute + i) == 0) {
                return i;
            }
        }
        return error(NONE);
    }

    public int like(int face, int voice, int v) {
        if (!within(face, 0, FACES - 1) || !within(voice, 0, FACES - 1) || !within(v, 0, 99)) {
            return error(BEYOND);
        }
        int was = now.likes[FACES * face + voice];
        now.likes[FACES * face + voice] = v;
        return was;
    }

    public int cast(int what) {
        if (!within(what, -1, FACES - 1)) {
            return error(BEYOND);
        }
        int first = 0;
        int most = -1;
        for (int voices = 0; voices < 256; voices++) {
            int likes = now.likesOf(voices);
            if (likes > most) {
                most = likes;
                first = voices;
            }
        }
        return what < 0 ? most : voiceOf(first, what);
    }

    public long takes(int p, int n, int part) {
        if (!within(p, 1, 16) || !within(n, 0, MOST_TAKES) || !within(part, 0, 1)) {
            return error(BEYOND);
        }
        long all = power(16, n);
        long good = all - power(16 - p, n);
        // all is a power of 2, so no other divisor can be common
        for (int i = 0; i < 4 * MOST_TAKES && good % 2 == 0 && all % 2 == 0; i++) {
            good /= 2;
            all /= 2;
        }
        return part == 0 ? good : all;
    }

    public int enough(int p, int a) {
        if (!within(p, 1, 16) || !within(a, 1, 15)) {
            return error(BEYOND);
        }
        for (int n = 1; n <= MOST_TAKES; n++) {
            long all = power(16, n);
            if (16 * (all - power(16 - p, n)) >= a * all) {
                return n;
            }
        }
        return error(NONE);
    }

    // ---- draws, voices, sheets, images, what is told

    public int seed(int v) {
        int was = now.z;
        now.z = v;
        return was;
    }

    public int voice(int line, int act, int x) {
        if (!isLine(line) || !within(act, FITS, TELLS)) {
            return error(BEYOND);
        }
        return stage.play(now.lines[line], line, act, x);
    }

    public int trace(int i) {
        return within(i, 0, stage.size - 1) ? stage.bodies[i] : error(NONE);
    }

    public int sheet(int sheet, int bits, int n) {
        if (!isSheet(sheet) || bits != 0 && bits != 8 && bits != 16 && bits != 32) {
            return error(BEYOND);
        }
        if (bits != 0 && n < 0) {
            return error(STATE);
        }
        if (bits != 0 && n > MOST_NUMBERS) {
            return error(BEYOND);
        }
        sheets.begin(sheet, bits, bits == 0 ? 0 : n);
        return 1;
    }

    public int put(int sheet, int i, int v) {
        if (!isSheet(sheet)) {
            return error(BEYOND);
        }
        if (sheets.bits[sheet] == 0) {
            return error(NONE);
        }
        if (!within(i, 0, sheets.sizes[sheet] - 1)) {
            return error(BEYOND);
        }
        sheets.set(sheet, i, v);
        return 1;
    }

    public int move(int sheet, int i, int other, int j, int n) {
        if (!isSheet(sheet) || !isSheet(other)) {
            return error(BEYOND);
        }
        if (sheets.bits[sheet] == 0 || sheets.bits[other] == 0) {
            return error(NONE);
        }
        if (sheets.bits[sheet] != sheets.bits[other]) {
            return error(KIND);
        }
        if (!sheets.stand(sheet, i, n) || !sheets.stand(other, j, n)) {
            return error(BEYOND);
        }
        System.arraycopy(sheets.numbers[sheet], i, sheets.numbers[other], j, n);
        return n;
    }

    public int mouths(int sheet) {
        if (!isSheet(sheet)) {
            return error(BEYOND);
        }
        if (sheets.bits[sheet] == 0) {
            return error(NONE);
        }
        int size = sheets.sizes[sheet];
        for (int i = 0; i < size; i++) {
            int number = sheets.at(sheet, i);
            if (!within(number, 0, HIDDEN)) {
                return i;
            }
            now.setFilm(i, number);
        }
        return size;
    }

    public int judge(int sheet) {
        if (!isSheet(sheet)) {
            return error(BEYOND);
        }
        if (sheets.bits[sheet] == 0) {
            return error(NONE);
        }
        int size = sheets.sizes[sheet];
        int both = Math.min(size, now.lineCount);
        for (int i = 0; i < both; i++) {
            if (sheets.at(sheet, i) != now.off(now.lines[i])) {
                return i;
            }
        }
        return size == now.lineCount ? -1 : both;
    }

    public int image() {
        kept.copy(now);
        images++;
        return images;
    }

    public int restore() {
        if (images == 0) {
            return error(NONE);
        }
        now.copy(kept);
        return now.minute;
    }

    public int tell(int v) {
        if (now.waitingSize >= MOST_WAITING) {
            return error(FULL);
        }
        now.waiting[now.waitingSize] = v;
        now.waitingSize++;
        return now.waitingSize;
    }

    public int check() {
        int size = now.waitingSize;
        now.waitingSize = 0;
        for (int i = 0; i < size; i++) {
            if (now.waiting[i] != now.filmAt(i)) {
                return 1 + i;
            }
        }
        return 0;
    }

    public int count(int what) {
        switch (what) {
            case 0: return now.wordCount;
            case 1: return now.lineCount;
            case 2: return now.minute;
            case 3: return now.laughs;
            case 4: return now.offOfAll();
            case 5: return now.lossOfAll();
            case 6: return now.noticedOfAll();
            case 7: return now.tapeSize;
            case 8: return now.waitingSize;
            case 9: return stage.size;
            case 10: return now.z;
            default: return error(BEYOND);
        }
    }

    public int told(int k) {
        return within(k, BEYOND, KIND) ? errors[k] : error(BEYOND);
    }

    // ---- what the calls share

    /** Counts the ERROR LOW - k, and is it. */
    private int error(int k) {
        if (within(k, BEYOND, KIND)) {
            errors[k]++;
        }
        return LOW - k;
    }

    private int ofFound(int what) {
        if (search.many == 0 || what >= search.size) {
            return error(NONE);
        }
        return what == -2 ? search.worth : what == -1 ? search.size : search.wordAt(what);
    }

    private boolean isLine(int line) {
        return within(line, 0, now.lineCount - 1);
    }

    private boolean areWords(int n, int a, int b, int c) {
        int last = now.wordCount - 1;
        return (n < 1 || within(a, 0, last)) && (n < 2 || within(b, 0, last)) && (n < 3 || within(c, 0, last));
    }

    private static boolean within(int v, int least, int most) {
        return v >= least && v <= most;
    }

    private static boolean isSheet(int sheet) {
        return within(sheet, 0, MOST_SHEETS - 1);
    }

    private static boolean isKindAndNumber(int km) {
        return within(km, 0, 10 * BREATHED + 9);
    }

    private static boolean areSyllables(int digits) {
        if (!within(digits, 1, 33333)) {
            return false;
        }
        int rest = digits;
        for (int i = 0; i < MOST_SYLLABLES && rest > 0; i++) {
            if (!within(rest % 10, 1, 3)) {
                return false;
            }
            rest /= 10;
        }
        return true;
    }

    private static long power(long base, int n) {
        long power = 1;
        for (int i = 0; i < n; i++) {
            power *= base;
        }
        return power;
    }

    /** The VOICE of a FACE, where VOICES are two bits each, those of FACE 0 the highest. */
    private static int voiceOf(int voices, int face) {
        return voices >> (2 * (FACES - 1 - face)) & 3;
    }

    private static int kindAbove(int kind) {
        return within(kind, LINE, BREATHED) ? ABOVE[kind] : -1;
    }

    /** Whether a KIND is another one, or under it. */
    private static boolean isUnder(int kind, int other) {
        int above = kind;
        for (int i = 0; i <= BREATHED && above >= LINE; i++) {
            if (above == other) {
                return true;
            }
            above = kindAbove(above);
        }
        return false;
    }

    private static int seenOf(int kind, int m, int v) {
        switch (kind) {
            case NEAR: return 2 * v;
            case FAR: return v / 2;
            case TURNED: return 0;
            case LAUGHED: return 2 * v + m;
            case NAMED: return v / 2 < m ? 0 : v / 2;
            case BREATHED: return v != 0 ? 1 : 0;
            default: return v;
        }
    }

    private static int endsOf(int kind, int m, int v) {
        switch (kind) {
            case NEAR: return 3 * v;
            case TURNED: return Math.max(v - 1, 0);
            case LAUGHED: return v > 1 ? 3 * v : 0;
            case NAMED: return v + m;
            case BREATHED: return Math.max(v - 1, 0) / 2;
            default: return v;
        }
    }

    /** A WORD, or the room for one. */
    private static final class Word {
        final int[] mouths = new int[MOST_SYLLABLES];
        int digits = 0;
        int length = 0;
        int sense = 0;

        void spell(int syllables, int itsSense) {
            digits = syllables;
            sense = itsSense;
            length = 0;
            for (int rest = syllables; rest > 0 && length < MOST_SYLLABLES; rest /= 10) {
                length++;
            }
            int rest = syllables;
            for (int i = length - 1; i >= 0; i--) {
                mouths[i] = rest % 10 - 1;
                rest /= 10;
            }
        }

        void copy(Word other) {
            digits = other.digits;
            length = other.length;
            sense = other.sense;
            System.arraycopy(other.mouths, 0, mouths, 0, MOST_SYLLABLES);
        }
    }

    /** A LINE, or the room for one. */
    private static final class Line {
        final int[] row = new int[MOST_SAID];
        int size = 0;
        int kind = LINE;
        int m = 0;
        int begin = 0;
        int lasts = 1;
        int wanted = 0;

        void begin(int km, int itsBegin, int itsLasts) {
            setKind(km);
            begin = itsBegin;
            lasts = itsLasts;
            wanted = 0;
            size = 0;
        }

        void setKind(int km) {
            kind = km / 10;
            m = km % 10;
        }

        void setRow(int n, int a, int b, int c) {
            size = n;
            row[0] = a;
            row[1] = b;
            row[2] = c;
        }

        void copy(Line other) {
            setKind(10 * other.kind + other.m);
            begin = other.begin;
            lasts = other.lasts;
            wanted = other.wanted;
            setRow(other.size, other.row[0], other.row[1], other.row[2]);
        }
    }

    /** All that an IMAGE keeps. */
    private static final class World {
        final int[] film = new int[TENTHS];
        final Word[] words = new Word[MOST_WORDS];
        final Line[] lines = new Line[MOST_LINES];
        final int[] tape = new int[MOST_BYTES];
        final Text apart = new Text();
        final Text notice = new Text();
        final int[] likes = new int[FACES * FACES];
        final int[] waiting = new int[MOST_WAITING];
        /** OFF and LOSS of LINES, worked out once for many MATINEES. */
        final int[] offs = new int[MOST_LINES];
        final int[] losses = new int[MOST_LINES];
        int wordCount = 0;
        int lineCount = 0;
        int tapeSize = 0;
        int waitingSize = 0;
        int minute = 0;
        int laughs = 0;
        int z = 1;

        World() {
            for (int i = 0; i < MOST_WORDS; i++) {
                words[i] = new Word();
            }
            for (int i = 0; i < MOST_LINES; i++) {
                lines[i] = new Line();
            }
        }

        void copy(World other) {
            System.arraycopy(other.film, 0, film, 0, TENTHS);
            System.arraycopy(other.tape, 0, tape, 0, MOST_BYTES);
            System.arraycopy(other.likes, 0, likes, 0, FACES * FACES);
            System.arraycopy(other.waiting, 0, waiting, 0, MOST_WAITING);
            for (int i = 0; i < MOST_WORDS; i++) {
                words[i].copy(other.words[i]);
            }
            for (int i = 0; i < MOST_LINES; i++) {
                lines[i].copy(other.lines[i]);
            }
            apart.hold(other.apart.code, other.apart.size);
            notice.hold(other.notice.code, other.notice.size);
            wordCount = other.wordCount;
            lineCount = other.lineCount;
            tapeSize = other.tapeSize;
            waitingSize = other.waitingSize;
            minute = other.minute;
            laughs = other.laughs;
            z = other.z;
        }

        int filmAt(int tenth) {
            return within(tenth, 0, TENTHS - 1) ? film[tenth] : HIDDEN;
        }

        void setFilm(int tenth, int v) {
            if (within(tenth, 0, TENTHS - 1)) {
                film[tenth] = v;
            }
        }

        void addByte(int v) {
            if (within(tapeSize, 0, MOST_BYTES - 1)) {
                tape[tapeSize] = v;
                tapeSize++;
            }
        }

        Text textOf(int use) {
            return use == APART ? apart : notice;
        }

        /** What the TEXT APART gives, or what stands for it. */
        int apartBy(int f, int w, int n) {
            if (apart.size > 0) {
                return Math.max(0, Math.min(99, apart.run(f, w, n)));
            }
            return f == w ? 0 : f == CLOSED || w == CLOSED ? 5 : 1;
        }

        /** What the TEXT NOTICE gives, or what stands for it. */
        int noticeBy(int o, int l, int t) {
            if (notice.size > 0) {
                return notice.run(o, l, t);
            }
            return o > 3 + t / 10 ? 1 : 0;
        }

        /** What a SYLLABLE of a MOUTH in a TENTH of a LINE (0 on) counts. */
        int seenAt(Line line, int tenth, int mouth) {
            int onFilm = filmAt(line.begin + tenth);
            if (tenth >= line.lasts || onFilm == HIDDEN) {
                return 0;
            }
            return seenOf(line.kind, line.m, apartBy(onFilm, mouth, tenth));
        }

        int off(Line line) {
            int off = 0;
            int tenth = 0;
            for (int i = 0; i < line.size; i++) {
                Word word = wordAt(line.row[i]);
                for (int s = 0; s < word.length; s++) {
                    off += seenAt(line, tenth, word.mouths[s]);
                    tenth++;
                }
            }
            return off + endsOf(line.kind, line.m, Math.abs(tenth - line.lasts));
        }

        int loss(Line line) {
            int sense = 0;
            for (int i = 0; i < line.size; i++) {
                sense += wordAt(line.row[i]).sense;
            }
            return Math.max(0, line.wanted - sense);
        }

        int offOfAll() {
            int sum = 0;
            for (int i = 0; i < lineCount; i++) {
                sum += off(lines[i]);
            }
            return sum;
        }

        int lossOfAll() {
            int sum = 0;
            for (int i = 0; i < lineCount; i++) {
                sum += loss(lines[i]);
            }
            return sum;
        }

        int noticedOfAll() {
            int sum = 0;
            for (int i = 0; i < lineCount; i++) {
                sum += noticeBy(off(lines[i]), loss(lines[i]), minute) != 0 ? 1 : 0;
            }
            return sum;
        }

        void weighLines() {
            for (int i = 0; i < lineCount; i++) {
                offs[i] = off(lines[i]);
                losses[i] = loss(lines[i]);
            }
        }

        /** One MATINEE, of LINES as they were weighed. */
        void matinee() {
            for (int i = 0; i < lineCount; i++) {
                boolean looked = draw() % 4 != 0;
                if (looked && laughs < MOST_LAUGHS && noticeBy(offs[i], losses[i], minute) != 0) {
                    laughs++;
                }
            }
            minute++;
        }

        int draw() {
            z = z * 1103515245 + 12345;
            return z >>> 8;
        }

        /** LIKES together by two bits a FACE; -1 if a VOICE comes again. */
        int likesOf(int voices) {
            int sum = 0;
            int taken = 0;
            for (int face = 0; face < FACES; face++) {
                int voice = voiceOf(voices, face);
                sum += likes[FACES * face + voice];
                taken |= 1 << voice;
            }
            return taken == 15 ? sum : -1;
        }

        Word wordAt(int word) {
            return words[within(word, 0, MOST_WORDS - 1) ? word : 0];
        }
    }

    /** A TEXT as its numbers, names and signs, each sign behind what it works on; none, if size is 0. */
    private static final class Text {
        /** Codes of names: this and their place; below it are numbers, and below 0 are signs. */
        static final int NAME = 10000;

        final int[] code = new int[MOST_BYTES];
        final int[] stack = new int[MOST_BYTES];
        int size = 0;

        void hold(int[] itsCode, int itsSize) {
            size = Math.max(0, Math.min(MOST_BYTES, itsSize));
            System.arraycopy(itsCode, 0, code, 0, MOST_BYTES);
        }

        int run(int a, int b, int c) {
            int top = 0;
            for (int i = 0; i < size; i++) {
                int sign = -code[i];
                if (sign <= 0 && top < MOST_BYTES) {
                    stack[top] = valueOf(code[i], a, b, c);
                    top++;
                } else if (sign == '!' && top > 0) {
                    stack[top - 1] = stack[top - 1] == 0 ? 1 : 0;
                } else if (sign > 0 && top > 1) {
                    top--;
                    stack[top - 1] = join(sign, stack[top - 1], stack[top]);
                }
            }
            return stack[0];
        }

        private static int valueOf(int code, int a, int b, int c) {
            switch (code) {
                case NAME: return a;
                case NAME + 1: return b;
                case NAME + 2: return c;
                default: return code;
            }
        }

        private static int join(int sign, int a, int b) {
            switch (sign) {
                case '|': return a != 0 || b != 0 ? 1 : 0;
                case '&': return a != 0 && b != 0 ? 1 : 0;
                case '<': return a < b ? 1 : 0;
                case '=': return a == b ? 1 : 0;
                case '>': return a > b ? 1 : 0;
                case '+': return a + b;
                case '-': return a - b;
                case '*': return a * b;
                case '/': return b == 0 ? 0 : a / b;
                case '%': return b == 0 ? 0 : a % b;
                default: return 0;
            }
        }
    }

    /** Reads TEXTS from THE TAPE. */
    private static final class Reader {
        /** The NAMES of both USES. */
        private static final char[] NAMES = {'f', 'w', 'n', 'o', 'l', 't'};
        private static final int NAMES_OF_USE = 3;
        /** How tightly signs hold: those of a higher level more tightly. */
        private static final int LEVELS = 5;
        private static final int COMPARING = 2;
        private static final int MOST_OPEN = 5;
        private static final int MOST_DIGITS = 4;

        final int[] code = new int[MOST_BYTES];
        int size = 0;
        private final int[] bytes = new int[MOST_BYTES];
        private int length = 0;
        private int use = APART;
        private int place = 0;
        private boolean failed = false;

        /** FAULT; -1: there is none, and the code is that of the TEXT. */
        int read(int[] tape, int tapeSize, int ofUse) {
            System.arraycopy(tape, 0, bytes, 0, MOST_BYTES);
            length = Math.max(0, Math.min(MOST_BYTES, tapeSize));
            use = ofUse;
            size = 0;
            place = 0;
            failed = false;
            readLevel(0, 0);
            if (place < length) {
                failed = true;
            }
            return failed ? place : -1;
        }

        /** Reads what signs of a level and higher ones join, with so many of ! and ( open. */
        private void readLevel(int level, int open) {
            if (level >= LEVELS) {
                readSingle(open);
                return;
            }
            readLevel(level + 1, open);
            for (int i = 0; i < MOST_BYTES && levelOf(here()) == level; i++) {
                int sign = here();
                place++;
                readLevel(level + 1, open);
                write(-sign);
                if (level == COMPARING) {
                    return;
                }
            }
        }

        private void readSingle(int open) {
            int sign = here();
            if (isDigit(sign)) {
                readNumber();
            } else if (nameOf(sign) >= 0) {
                place++;
                write(Text.NAME + nameOf(sign));
            } else if (sign == '!' && open < MOST_OPEN) {
                place++;
                readSingle(open + 1);
                write(-sign);
            } else if (sign == '(' && open < MOST_OPEN) {
                place++;
                readLevel(0, open + 1);
                pass(')');
            } else {
                failed = true;
            }
        }

        private void readNumber() {
            int number = 0;
            for (int i = 0; i < MOST_DIGITS && isDigit(here()); i++) {
                number = 10 * number + here() - '0';
                place++;
            }
            write(number);
        }

        private void pass(int sign) {
            if (here() == sign) {
                place++;
            } else {
                failed = true;
            }
        }

        /** The byte that is to be read; -1 if none is, or none is to be any more. */
        private int here() {
            return !failed && place < length ? bytes[place] : -1;
        }

        private void write(int v) {
            if (size < MOST_BYTES) {
                code[size] = v;
                size++;
            }
        }

        /** Which NAME of the USE a byte is; -1: none. */
        private int nameOf(int sign) {
            for (int i = 0; i < NAMES_OF_USE; i++) {
                if (NAMES[NAMES_OF_USE * use + i] == sign) {
                    return i;
                }
            }
            return -1;
        }

        private static boolean isDigit(int sign) {
            return within(sign, '0', '9');
        }

        private static int levelOf(int sign) {
            switch (sign) {
                case '|': return 0;
                case '&': return 1;
                case '<': case '=': case '>': return COMPARING;
                case '+': case '-': return 3;
                case '*': case '/': case '%': return 4;
                default: return -1;
            }
        }
    }

    /** Looks through all ROWS of 1 to 3 WORDS for a LINE. */
    private static final class Search {
        private final World world;
        /** By each TENTH of the LINE: what each MOUTH costs there. */
        private final int[] ofMouths = new int[MOST_LASTS * HIDDEN];
        /** By each WORD: what it costs where it begins in each TENTH of the LINE. */
        private final int[] ofWords = new int[MOST_WORDS * MOST_LASTS];
        private final int[] trial = new int[MOST_SAID];
        private final int[] row = new int[MOST_SAID];
        int size = 0;
        /** What the row that was found has least. */
        int worth = 0;
        /** How many rows there are that may be taken. */
        int many = 0;

        Search(World itsWorld) {
            world = itsWorld;
        }

        int wordAt(int i) {
            return within(i, 0, MOST_SAID - 1) ? row[i] : 0;
        }

        void find(Line line, int aim, int v) {
            many = 0;
            size = 0;
            worth = 0;
            priceMouths(line, aim);
            priceWords(line);
            int rows = 1;
            for (int n = 1; n <= MOST_SAID; n++) {
                rows *= world.wordCount;
                for (int i = 0; i < rows; i++) {
                    tryRow(i, n);
                    weigh(line, aim, v, n);
                }
            }
        }

        private void priceMouths(Line line, int aim) {
            for (int tenth = 0; tenth < MOST_LASTS; tenth++) {
                for (int mouth = 0; mouth < HIDDEN; mouth++) {
                    ofMouths[HIDDEN * tenth + mouth] = aim == HEARD
                            ? misfit(line, tenth, mouth)
                            : world.seenAt(line, tenth, mouth);
                }
            }
        }

        private int misfit(Line line, int tenth, int mouth) {
            int onFilm = world.filmAt(line.begin + tenth);
            return onFilm == HIDDEN || onFilm == mouth ? 0 : 1;
        }

        private void priceWords(Line line) {
            for (int i = 0; i < world.wordCount; i++) {
                for (int tenth = 0; tenth < line.lasts; tenth++) {
                    ofWords[MOST_LASTS * i + tenth] = priceOf(world.wordAt(i), tenth);
                }
            }
        }

        private int priceOf(Word word, int tenth) {
            int price = 0;
            for (int s = 0; s < word.length && tenth + s < MOST_LASTS; s++) {
                price += ofMouths[HIDDEN * (tenth + s) + word.mouths[s]];
            }
            return price;
        }

        /** The i-th row of n WORDS, in order as rows, is to be weighed. */
        private void tryRow(int i, int n) {
            int rest = i;
            for (int k = n - 1; k >= 0 && world.wordCount > 0; k--) {
                trial[k] = rest % world.wordCount;
                rest /= world.wordCount;
            }
        }

        private void weigh(Line line, int aim, int v, int n) {
            int price = 0;
            int tenth = 0;
            int sense = 0;
            for (int i = 0; i < n; i++) {
                Word word = world.wordAt(trial[i]);
                price += tenth < line.lasts ? ofWords[MOST_LASTS * trial[i] + tenth] : 0;
                tenth += word.length;
                sense += word.sense;
            }
            int off = price + endsOf(line.kind, line.m, Math.abs(tenth - line.lasts));
            int loss = Math.max(0, line.wanted - sense);
            if (aim == BEST && loss <= v) {
                offer(off, n);
            } else if (aim == DEAREST && off <= v) {
                offer(loss, n);
            } else if (aim == HEARD && tenth == line.lasts && price == 0) {
                offer(0, n);
            }
        }

        private void offer(int itsWorth, int n) {
            many++;
            if (many == 1 || itsWorth < worth) {
                worth = itsWorth;
                size = n;
                System.arraycopy(trial, 0, row, 0, MOST_SAID);
            }
        }
    }

    /** Plays VOICES OF KINDS, and keeps THE TRACE. */
    private static final class Stage {
        private static final int ACTS = 4;
        /** By KINDS: the numbers of their BODIES for fits, says, ends, tells; 0 if there is none. */
        private static final int[] BODIES = {
            10, 11, 12, 13,
            20, 0, 0, 0,
            0, 30, 0, 0,
            0, 0, 40, 0,
            0, 0, 0, 50,
            0, 60, 0, 0,
            0, 0, 70, 71
        };
        private static final int DEEPEST = 20;

        final int[] bodies = new int[MOST_TRACE];
        int size = 0;
        private int kind = LINE;
        private int m = 0;
        private int number = 0;

        int play(Line line, int itsNumber, int act, int x) {
            kind = line.kind;
            m = line.m;
            number = itsNumber;
            size = 0;
            return from(kind, act, x, 0);
        }

        /** The BODY of a KIND, or of the next KIND above that has one. */
        private int from(int start, int act, int x, int depth) {
            if (depth > DEEPEST) {
                return 0;
            }
            int body = bodyOf(start, act);
            note(body);
            int below = depth + 1;
            switch (body) {
                case 10: return x + number;
                case 11: return from(kind, FITS, x, below) * 2;
                case 12: return x - m;
                case 13: return from(kind, SAYS, x, below) ^ from(kind, ENDS, x, below);
                case 20: return from(LINE, FITS, x, below) * 3;
                case 30: return from(LINE, SAYS, x, below) - from(kind, ENDS, 1, below);
                case 40: return -from(LINE, ENDS, x, below);
                case 50: return from(NEAR, TELLS, x, below) - from(kind, FITS, 2, below);
                case 60: return from(FAR, SAYS, x + 1, below);
                case 70: return from(TURNED, ENDS, x, below) ^ number;
                case 71: return from(kind, SAYS, x, below) - from(TURNED, TELLS, x, below);
                default: return 0;
            }
        }

        private static int bodyOf(int start, int act) {
            int above = start;
            for (int i = 0; i <= BREATHED && within(above, LINE, BREATHED); i++) {
                int body = BODIES[ACTS * above + act];
                if (body != 0) {
                    return body;
                }
                above = kindAbove(above);
            }
            return 0;
        }

        private void note(int body) {
            if (size < MOST_TRACE) {
                bodies[size] = body;
                size++;
            }
        }
    }

    /** SHEETS; a missing one has 0 bits. */
    private static final class Sheets {
        final int[] bits = new int[MOST_SHEETS];
        final int[] sizes = new int[MOST_SHEETS];
        final int[][] numbers = new int[MOST_SHEETS][MOST_NUMBERS];

        void begin(int sheet, int itsBits, int n) {
            bits[sheet] = itsBits;
            sizes[sheet] = n;
            for (int i = 0; i < MOST_NUMBERS; i++) {
                numbers[sheet][i] = 0;
            }
        }

        int at(int sheet, int i) {
            return numbers[sheet][i];
        }

        void set(int sheet, int i, int v) {
            numbers[sheet][i] = bits[sheet] == 8 ? (byte) v : bits[sheet] == 16 ? (short) v : v;
        }

        /** Whether n numbers from number i on stand on a SHEET. */
        boolean stand(int sheet, int i, int n) {
            return i >= 0 && n >= 0 && n <= sizes[sheet] && i <= sizes[sheet] - n;
        }
    }
}
