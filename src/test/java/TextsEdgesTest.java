/** Terms 2 and promises 13 to 15, at their bounds: THE TAPE, what a TEXT may be, FAULT, what it gives. */
public final class TextsEdgesTest {
    private static final Due due = new Due();

    private static void due(String call, long got, long want) {
        due.due(call, got, want);
    }

    private static void tape() {
        due.promise("Terms 2: THE TAPE (bytes, at most 50)");
        for (int size = 0; size <= 50; size++) {
            for (int n = 1; n <= 8; n++) {
                LipsThatFit x = new LipsThatFit();
                Due.feed(x, "+".repeat(size));
                due("feed(.., " + n + ") to " + size, x.feed(0, n), size + n <= 50 ? size + n : Due.FULL);
                due("count(7)", x.count(7), size + n <= 50 ? size + n : size);
            }
        }
        due.promise("promise 13: the n lowest bytes (1 .. 8) of a word, the lowest first");
        for (int n = 1; n <= 8; n++) {
            LipsThatFit x = new LipsThatFit();
            // 1+1+1+1+ with bytes behind that are not fed
            due("feed(.., " + n + ")", x.feed(0x2b312b312b312b31L, n), n);
            due("text(1)", x.text(1), n % 2 == 1 ? 1 : -10 - n);
            due("law(1, 0, 0, 0)", x.law(1, 0, 0, 0), n % 2 == 1 ? (n + 1) / 2 : 0);
        }
        LipsThatFit x = new LipsThatFit();
        x.feed(Long.MIN_VALUE | '1', 7);
        due("a byte of 0 behind 1", x.text(1), -11);
        x.feed(Long.MIN_VALUE, 8);
        due("a byte of 0", x.text(1), -10);
        x.feed(0xffL, 1);
        due("a byte of 255", x.text(1), -10);
        x.feed('1' | 0x100, 1);
        due("a byte above 255 is cut", x.text(1), 1);
    }

    /** A TEXT of USE 0 that has a FAULT there, or (below 0) none. */
    private static void faultOf(String text, int fault) {
        LipsThatFit x = new LipsThatFit();
        due("text(0) of " + text, Due.text(x, 0, text), fault < 0 ? 1 : -10 - fault);
        due("count(7) behind " + text, x.count(7), 0);
    }

    /** Each byte, first, behind an operand, in parentheses, behind a comparison. */
    private static void anyByte() {
        due.promise("Terms 2: FAULT, by each byte");
        String[] names = {"fwn", "olt"};
        for (int use = 0; use <= 1; use++) {
            for (int b = 0; b < 256; b++) {
                LipsThatFit x = new LipsThatFit();
                boolean digit = b >= '0' && b <= '9';
                boolean joins = b > 0 && "|&<=>+-*/%".indexOf(b) >= 0;
                boolean compares = b > 0 && "<=>".indexOf(b) >= 0;
                x.feed(b, 1);
                int first = digit || names[use].indexOf(b) >= 0 ? 1 : b == '!' || b == '(' ? -11 : -10;
                due("byte " + b, x.text(use), first);
                x.feed('1' | b << 8, 2);
                due("1 and byte " + b, x.text(use), digit ? 1 : joins ? -12 : -11);
                x.feed('(' | '1' << 8 | b << 16, 3);
                due("(1 and byte " + b, x.text(use), b == ')' ? 1 : digit || joins ? -13 : -12);
                x.feed('1' | '<' << 8 | '2' << 16 | (long) b << 24, 4);
                due("1<2 and byte " + b, x.text(use), digit ? 1 : joins && !compares ? -14 : -13);
            }
        }
    }

    private static void numbers() {
        due.promise("Terms 2: a NUMBER of 1 to 4 digits");
        LipsThatFit x = new LipsThatFit();
        Object[][] numbers = {{"0", 0}, {"9", 9}, {"10", 10}, {"999", 999}, {"1000", 1000}, {"9999", 9999}, {"00", 0},
            {"0000", 0}, {"0001", 1}, {"0010", 10}};
        for (Object[] row : numbers) {
            due("text(1) of " + row[0], Due.text(x, 1, (String) row[0]), 1);
            due(row[0] + " is", x.law(1, 7, 7, 7), (Integer) row[1]);
        }
        faultOf("12345", 4);
        faultOf("00000", 4);
        faultOf("1+12345", 6);
        faultOf("(12345", 5);
        faultOf("!12345", 5);
        faultOf("1234567890", 4);
    }

    private static void open() {
        due.promise("Terms 2: at most 5 of ! and ( are open at once");
        for (int n = 1; n <= 7; n++) {
            int fault = n <= 5 ? -1 : 5;
            faultOf("(".repeat(n) + "1" + ")".repeat(n), fault);
            faultOf("!".repeat(n) + "1", fault);
            // each pattern of ! and ( of that length
            for (int set = 0; set < 1 << n; set++) {
                StringBuilder text = new StringBuilder();
                for (int i = 0; i < n; i++) {
                    text.append((set >> i & 1) == 1 ? '(' : '!');
                }
                text.append("f").append(")".repeat(Integer.bitCount(set)));
                faultOf(text.toString(), fault);
                faultOf("f+" + text, fault < 0 ? fault : fault + 2);
            }
        }
        due.promise("Terms 2: .. at once: those that are closed don't count");
        String[] closed = {"(1)+(1)+(1)+(1)+(1)+(1)", "!1+!1+!1+!1+!1+!1", "((((1))))+((((1))))", "((((!1+!1))))",
            "!!!!!1+!!!!!1", "(1+(1+(1+(1+(1+1)))))", "((((1)+(1))))", "!(1)+!(((1)))", "(!!!!1)*(!!!!1)",
            "(((!(1))))|((((1)&!1)))"};
        for (String text : closed) {
            faultOf(text, -1);
        }
        faultOf("(!!!!1)*(!!!!(1))", 13);
        faultOf("(1+(1+(1+(1+(1+(1))))))", 15);
        faultOf("(1+(1+(1+(1+(1+!1)))))", 15);
        faultOf("(((((1)))))+((((((", 17);
        faultOf("((((1))))+(((((1+!", 17);
    }

    private static void ends() {
        due.promise("Terms 2: FAULT: how many there are, if it ends too early");
        String[] early = {"", "!", "(", "1+", "(1", "f<", "f=1|", "!(1", "((((1)))", "!!!!!", "(((((", "1+(2*3"};
        for (String text : early) {
            faultOf(text, text.length());
        }
        for (int size = 1; size <= 50; size++) {
            String text = "1+".repeat(25).substring(0, size);
            faultOf(text, size % 2 == 1 ? -1 : size);
            if (size < 50) {
                faultOf(text + ")", size);
            }
        }
        due.promise("Terms 2: a TEXT of all 50 bytes");
        faultOf("12+" + "1+".repeat(23) + "1", -1);
        gives("12+" + "1+".repeat(23) + "1", 0, 0, 36);
        faultOf("1234" + "*1234".repeat(9) + "1", 49);
        faultOf("1+".repeat(24) + "1<", 50);
        faultOf("1+".repeat(24) + "1)", 49);
        faultOf("1+".repeat(24) + "1!", 49);
    }

    private static void refused() {
        due.promise("promise 14: the one ahead stays; THE TAPE is empty, too; no ERROR");
        LipsThatFit x = new LipsThatFit();
        due("a FAULT", Due.text(x, 0, "f+"), -12);
        due("none ahead", x.law(0, 1, 2, 0), 1);
        due("a FAULT", Due.text(x, 1, "o*"), -12);
        due("none ahead", x.law(1, 4, 0, 0), 1);
        due("a TEXT", Due.text(x, 0, "f+9"), 1);
        due("a FAULT", Due.text(x, 0, "w+w+w+"), -16);
        due("the one ahead", x.law(0, 1, 2, 0), 10);
        due("the other USE", x.law(1, 4, 0, 0), 1);
        due("a TEXT in its place", Due.text(x, 0, "w"), 1);
        due("that one", x.law(0, 1, 2, 0), 2);
        due("a TEXT of the other USE", Due.text(x, 1, "t"), 1);
        due("both stand", 10 * x.law(0, 1, 2, 0) + x.law(1, 4, 0, 3), 23);
        due("THE TAPE is empty", x.text(0), -10);
        for (int k = 1; k <= 5; k++) {
            due("told(" + k + ")", x.told(k), 0);
        }
        Due.feed(x, "o+1");
        due("text(2)", x.text(2), Due.BEYOND);
        due("text(-1)", x.text(-1), Due.BEYOND);
        due("THE TAPE stays", x.count(7), 3);
        due("its TEXT", x.text(1), 1);
        due("what it gives", x.law(1, 4, 0, 3), 5);
    }

    /** What a TEXT of the USE 1 gives by o and l. */
    private static void gives(String text, int o, int l, int want) {
        LipsThatFit x = new LipsThatFit();
        due("text(1) of " + text, Due.text(x, 1, text), 1);
        due(text + " of " + o + ", " + l, x.law(1, o, l, 0), want);
    }

    private static void ints() {
        due.promise("Terms 2: ints that wrap");
        int most = Due.MOST;
        int least = Due.LEAST;
        gives("o+l", most, 1, least);
        gives("o+l", most - 1, 1, most);
        gives("o+l", least, least, 0);
        gives("o-l", least, 1, most);
        gives("o-l", 0, least, least);
        gives("o*l", 65536, 65536, 0);
        gives("o*l", 65536, 32768, least);
        gives("o*l", most, 2, -2);
        gives("o*l", 46341, 46341, -2147479015);
        gives("o*l", least, -1, least);
        due.promise("Terms 2: / cut, % the rest that it leaves");
        int[][] quotients = {{7, 2, 3, 1}, {-7, 2, -3, -1}, {7, -2, -3, 1}, {-7, -2, 3, -1}, {1, 2, 0, 1},
            {-1, 2, 0, -1}, {6, 3, 2, 0}, {5, 6, 0, 5}, {least, -1, least, 0}, {least, 1, least, 0},
            {least, least, 1, 0}, {most, least, 0, most}, {least, most, -1, -1}, {0, 5, 0, 0}};
        for (int[] a : quotients) {
            gives("o/l", a[0], a[1], a[2]);
            gives("o%l", a[0], a[1], a[3]);
        }
        due.promise("Terms 2: both by 0 are 0");
        for (int o : new int[] {least, -1, 0, 1, most}) {
            gives("o/l", o, 0, 0);
            gives("o%l", o, 0, 0);
            gives("9+o/(l-l)", o, 5, 9);
        }
        due.promise("Terms 2: < = > are 1 or 0");
        int[][] pairs = {{0, 0}, {0, 1}, {1, 0}, {-1, 0}, {0, -1}, {least, most}, {most, least}, {least, least},
            {most, most}, {most, most - 1}, {least, least + 1}, {least, 1}, {1, least}};
        for (int[] a : pairs) {
            gives("o<l", a[0], a[1], a[0] < a[1] ? 1 : 0);
            gives("o=l", a[0], a[1], a[0] == a[1] ? 1 : 0);
            gives("o>l", a[0], a[1], a[0] > a[1] ? 1 : 0);
        }
        due.promise("Terms 2: | & ! are 1 or 0, what is not 0 being true");
        int[] any = {least, -1, 0, 1, 2, 4, most};
        for (int o : any) {
            gives("!o", o, 0, o == 0 ? 1 : 0);
            gives("!!o", o, 0, o == 0 ? 0 : 1);
            for (int l : any) {
                gives("o&l", o, l, o != 0 && l != 0 ? 1 : 0);
                gives("o|l", o, l, o != 0 || l != 0 ? 1 : 0);
            }
        }
    }

    private static void heldApart() {
        due.promise("Terms 2: APART is held within 0 to 99");
        LipsThatFit x = new LipsThatFit();
        Due.text(x, 0, "f-w");
        int[][] held = {{0, 1, 0}, {0, 0, 0}, {1, 0, 1}, {2, 0, 2}, {98, 0, 98}, {99, 0, 99}, {100, 0, 99}, {101, 0, 99},
            {Due.LEAST, 0, 0}, {Due.MOST, 0, 99}, {Due.LEAST, 1, 99}, {Due.MOST, -1, 0}};
        for (int[] a : held) {
            due("law(0, " + a[0] + ", " + a[1] + ", 5)", x.law(0, a[0], a[1], 5), a[2]);
        }
        x.word(1, 0);
        x.line(0, 0, 1);
        String[] texts = {"0-1", "0", "1", "98", "99", "100", "9999", "0-9999"};
        int[] offs = {0, 0, 1, 98, 99, 99, 99, 0};
        for (int i = 0; i < texts.length; i++) {
            Due.text(x, 0, texts[i]);
            due("OFF by " + texts[i], x.say(0, 1, 0, 0, 0), offs[i]);
            due("BEST by " + texts[i], x.best(0, 99, -2), offs[i]);
            due("MUST by " + texts[i], x.must(0), offs[i] == 0 ? 0 : 1);
        }
        due.promise("promise 15: NOTICE: any number");
        Due.text(x, 1, "o-l");
        int[][] any = {{0, 1, -1}, {100, 0, 100}, {Due.LEAST, 0, Due.LEAST}, {Due.MOST, 0, Due.MOST},
            {Due.LEAST, 1, Due.MOST}, {Due.BEYOND, 0, Due.BEYOND}, {Due.KIND, 0, Due.KIND}};
        for (int[] a : any) {
            due("law(1, " + a[0] + ", " + a[1] + ", 5)", x.law(1, a[0], a[1], 5), a[2]);
        }
        due("told(1) + told(5)", x.told(1) + x.told(5), 0);
    }

    private static void without() {
        due.promise("Terms 2: APART without a TEXT 0 if both are alike, else 5 if one of both is CLOSED, else 1");
        int[] any = {Due.LEAST, -1, 0, 1, 2, 3, 4, Due.MOST};
        for (int f : any) {
            LipsThatFit x = new LipsThatFit();
            for (int w : any) {
                for (int n : any) {
                    due("law(0, " + f + ", " + w + ", " + n + ")", x.law(0, f, w, n),
                            f == w ? 0 : f == 0 || w == 0 ? 5 : 1);
                }
            }
        }
        LipsThatFit x = new LipsThatFit();
        due.promise("Terms 2: NOTICE without a TEXT o>3+t/10 (the quotient cut)");
        int[][] bounds = {{0, 3}, {9, 3}, {10, 4}, {11, 4}, {19, 4}, {20, 5}, {99, 12}, {9999, 1002}, {-1, 3}, {-9, 3},
            {-10, 2}, {-19, 2}, {-20, 1}, {-39, 0}, {-40, -1}, {Due.MOST, 214748367}, {Due.LEAST, -214748361}};
        for (int[] a : bounds) {
            for (int l : any) {
                due("law(1, o, " + l + ", " + a[0] + "), one below", x.law(1, a[1] - 1, l, a[0]), 0);
                due("law(1, o, " + l + ", " + a[0] + "), just as much", x.law(1, a[1], l, a[0]), 0);
                due("law(1, o, " + l + ", " + a[0] + "), one above", x.law(1, a[1] + 1, l, a[0]), 1);
            }
        }
        due("law(1, least, ..)", x.law(1, Due.LEAST, 0, 0), 0);
        due("law(1, most, ..)", x.law(1, Due.MOST, 0, 0), 1);
    }

    private static void binding() {
        due.promise("Terms 2: how T, A, B, S, P, Q hold");
        // o is 5, l is 3
        Object[][] values = {{"o-l-1", 1}, {"o-(l-1)", 3}, {"9/o*l", 3}, {"9/(o*l)", 0}, {"9-o*2", -1}, {"(9-o)*2", 8},
            {"o<l+9", 1}, {"(o<l)+9", 9}, {"o=l+2&l=o-2", 1}, {"1|0&0", 1}, {"(1|0)&0", 0}, {"0&0|1", 1},
            {"!o+1", 1}, {"!(o+1)", 0}, {"!0*7", 7}, {"!o=0", 1}, {"9%5%3", 1}, {"9%(5%3)", 1}, {"7*5%3", 2},
            {"7*(5%3)", 14}, {"0&1/0", 0}, {"1|1/0", 1}, {"2>1&1", 1}, {"2>(1&0)", 1}, {"1&2>1", 1}};
        for (Object[] row : values) {
            gives((String) row[0], 5, 3, (Integer) row[1]);
        }
    }

    public static void main(String[] args) {
        tape();
        anyByte();
        numbers();
        open();
        ends();
        refused();
        ints();
        heldApart();
        without();
        binding();
        due.end();
    }
}
