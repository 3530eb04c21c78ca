import java.util.Random;

/** Promises 13 to 15: texts. */
public final class TextsTest {
    private static final Due due = new Due();

    private static void due(String call, long got, long want) {
        due.due(call, got, want);
    }

    private static void feed() {
        due.promise("promise 13");
        LipsThatFit x = new LipsThatFit();
        due("feed('o', 1)", x.feed('o', 1), 1);
        due("feed('+' ahead of '1', 2)", x.feed('+' | '1' << 8, 2), 3);
        due("text(1)", x.text(1), 1);
        due("law(1, 6, 0, 0)", x.law(1, 6, 0, 0), 7);
        due("feed(.., 8)", x.feed(0x3737373737373737L, 8), 8);
        int[] wrong = {0, -1, 9, Due.MOST, Due.LEAST};
        for (int n : wrong) {
            due("feed(0, " + n + ")", x.feed(0, n), Due.BEYOND);
        }
        due("count(7)", x.count(7), 8);
        for (int i = 2; i <= 6; i++) {
            due("feed(0, 8)", x.feed(0, 8), 8 * i);
        }
        due("feed(0, 3) above 50", x.feed(0, 3), Due.FULL);
        due("feed(0, 9) above 50", x.feed(0, 9), Due.BEYOND);
        due("count(7)", x.count(7), 48);
        due("feed(0, 2)", x.feed(0, 2), 50);
        due("feed(0, 1) above 50", x.feed(0, 1), Due.FULL);
        due("told(4)", x.told(4), 2);
        due("text(0)", x.text(0), -14);
        x.feed(0xFFFFFFFFFFFFFF31L, 1);
        due("only the lowest byte counts", x.text(0), 1);
        x.feed(-1L, 8);
        due("bytes of 255", x.text(0), -10);
        x.feed((long) '1' << 56 | 0x2b312b312b312bL, 8);
        due("a sign first", x.text(0), -10);
        x.feed((long) '1' << 56 | 0x2b312b312b3121L, 8);
        due("the highest byte last", x.text(1), 1);
        due("!1+1+1+1", x.law(1, 0, 0, 0), 3);
    }

    private static void faults() {
        due.promise("promise 14");
        LipsThatFit x = new LipsThatFit();
        Object[][] faults = {{"", 0}, {"12345", 4}, {"1 ", 1}, {" 1", 0}, {"f+", 2}, {"f++", 2}, {"o", 0}, {"f+l", 2},
            {"1<2<3", 3}, {"(1<2)<3|", 8}, {"1=2>", 3}, {"1&2<3=4", 5}, {"!", 1}, {"!!!!!!1", 5}, {"!!!!!(1)", 5},
            {"((((((1))))))", 5}, {"(!(!(!1)))", 5}, {"(1", 2}, {"(1))", 3}, {")", 0}, {"()", 1}, {"-1", 0},
            {"1--1", 2}, {"1!", 1}, {"1!1", 1}, {"f1", 1}, {"1f", 1}, {"ff", 1}, {"F", 0}, {"1||2", 2}, {"|", 0},
            {"((1)", 4}, {"1+(2", 4}, {"1+(2*", 5}, {"12+34567", 7}, {"(1<2<3)", 4}, {"~", 0}, {"1^2", 1},
            {"9999+9999+9999+9999+9999+9999+9999+9999+9999+9999+", 50}};
        for (Object[] row : faults) {
            due("text(0) of " + row[0], Due.text(x, 0, (String) row[0]), -10 - (Integer) row[1]);
            due("count(7) then", x.count(7), 0);
        }
        due("the one ahead stays", x.law(0, 1, 2, 0), 1);
        String[] right = {"f", "w", "n", "1234", "0000", "!!!!!1", "(((((1)))))", "!(!(!1))", "(1<2)=(3>4)",
            "!1+!1+!1+!1+!1+!1+!1", "(1)+(1)+(1)+(1)+(1)+(1)+(1)", "1<2&3>4|5=6",
            "!9999+9999+9999+9999+9999+9999+9999+9999+9999+9999"};
        for (String text : right) {
            due("text(0) of " + text, Due.text(x, 0, text), 1);
            due("count(7) then", x.count(7), 0);
        }
        due("text(1) of o", Due.text(x, 1, "o"), 1);
        due("text(1) of l", Due.text(x, 1, "l"), 1);
        due("text(1) of t", Due.text(x, 1, "t"), 1);
        due("text(1) of f", Due.text(x, 1, "f"), -10);
        due("told", x.told(1) + x.told(2) + x.told(3) + x.told(4) + x.told(5), 0);
        x.feed('f', 1);
        int[] wrong = {-1, 2, Due.MOST, Due.LEAST};
        for (int use : wrong) {
            due("text(" + use + ")", x.text(use), Due.BEYOND);
        }
        due("count(7) stays", x.count(7), 1);
        due("text(0)", x.text(0), 1);
        due("the one ahead is replaced", x.law(0, 77, 0, 0), 77);
        due("the other USE stays", x.law(1, 1, 2, 3), 3);
    }

    private static void law() {
        due.promise("promise 15");
        LipsThatFit x = new LipsThatFit();
        int[] wrong = {-1, 2, Due.MOST, Due.LEAST};
        for (int use : wrong) {
            due("law(" + use + ", 0, 0, 0)", x.law(use, 0, 0, 0), Due.BEYOND);
        }
        int[][] apart = {{0, 0, 0}, {1, 1, 0}, {0, 1, 5}, {0, 2, 5}, {1, 0, 5}, {2, 0, 5}, {1, 2, 1}, {2, 1, 1},
            {3, 0, 5}, {3, 1, 1}, {3, 3, 0}, {-7, 9, 1}};
        for (int[] a : apart) {
            due("law(0, " + a[0] + ", " + a[1] + ", 3) without", x.law(0, a[0], a[1], 3), a[2]);
        }
        int[][] notice = {{3, 0, 0}, {4, 0, 1}, {4, 9, 1}, {4, 10, 0}, {5, 19, 1}, {5, 20, 0}, {3, -9, 0}, {3, -10, 1},
            {Due.LEAST, Due.LEAST, 0}, {Due.MOST, Due.MOST, 1}};
        for (int[] a : notice) {
            due("law(1, " + a[0] + ", 99, " + a[1] + ") without", x.law(1, a[0], 99, a[1]), a[2]);
        }
        Due.text(x, 0, "f-w*n");
        due("law(0, 99, 0, 0)", x.law(0, 99, 0, 0), 99);
        due("law(0, 100, 0, 0)", x.law(0, 100, 0, 0), 99);
        due("law(0, 0, 1, 1)", x.law(0, 0, 1, 1), 0);
        due("law(0, 60, 5, 3)", x.law(0, 60, 5, 3), 45);
        Object[][] values = {{"o", 11}, {"l", 3}, {"t", -4}, {"0-9", -9}, {"2+3*4", 14}, {"(2+3)*4", 20},
            {"10-3-2", 5}, {"7/2", 3}, {"(0-7)/2", -3}, {"(0-7)%2", -1}, {"7%(0-2)", 1}, {"7/0", 0}, {"7%0", 0},
            {"24/4/3", 2}, {"24/4*3", 18}, {"17%10%4", 3}, {"1<2", 1}, {"2<1", 0}, {"2<2", 0}, {"2>1", 1},
            {"2>2", 0}, {"2=2", 1}, {"2=3", 0}, {"5&3", 1}, {"5&0", 0}, {"0&5", 0}, {"0|7", 1}, {"7|0", 1},
            {"0|0", 0}, {"!0", 1}, {"!5", 0}, {"!!5", 1}, {"!5+1", 1}, {"!(5-5)", 1}, {"1|0&0", 1},
            {"1<2+3", 1}, {"1+2<3", 0}, {"(1<2)<3", 1}, {"3-1=2", 1}, {"1=1&2=2", 1}, {"0&7/0|1", 1},
            {"0009", 9}, {"0-9999*9999*9999", -(9999 * 9999 * 9999)}, {"o*l-t", 37}, {"1=2|3", 1}};
        for (Object[] row : values) {
            due("text(1) of " + row[0], Due.text(x, 1, (String) row[0]), 1);
            due(row[0] + " of 11, 3, -4", x.law(1, 11, 3, -4), (Integer) row[1]);
        }
        Due.text(x, 1, "o/l");
        due("least / -1", x.law(1, Due.LEAST, -1, 0), Due.LEAST);
        Due.text(x, 1, "o%l");
        due("least % -1", x.law(1, Due.LEAST, -1, 0), 0);
        Due.text(x, 1, "o+l");
        due("a sum that wraps", x.law(1, Due.MOST, 1, 0), Due.LEAST);
        int low = x.told(1);
        due("a number like an ERROR", x.law(1, Due.BEYOND, 0, 0), Due.BEYOND);
        due("told(1) is no more", x.told(1), low);
    }

    /** What a TEXT made at random gives, and the TEXT. */
    private record Made(String text, int value) {
    }

    private static final int[] NAMED = {5, -3, 1000000007};

    private static Made make(Random random, int level, int open) {
        String[] signs = {"|", "&", "<=>", "+-", "*/%"};
        if (level == 5) {
            int what = random.nextInt(open < 5 ? 6 : 3);
            if (what < 2) {
                int number = random.nextInt(random.nextBoolean() ? 4 : 10000);
                return new Made(String.valueOf(number), number);
            } else if (what == 2) {
                int name = random.nextInt(3);
                return new Made("olt".substring(name, name + 1), NAMED[name]);
            } else if (what == 3) {
                Made of = make(random, 5, open + 1);
                return new Made("!" + of.text, of.value == 0 ? 1 : 0);
            }
            Made of = make(random, 0, open + 1);
            return new Made("(" + of.text + ")", of.value);
        }
        Made made = make(random, level + 1, open);
        int more = random.nextInt(5) / 3;
        for (int i = 0; i < (level == 2 ? Math.min(1, more) : more); i++) {
            char sign = signs[level].charAt(random.nextInt(signs[level].length()));
            Made next = make(random, level + 1, open);
            made = new Made(made.text + sign + next.text, PlainText.joined(sign, made.value, next.value));
        }
        return made;
    }

    private static void anyTexts() {
        due.promise("promises 14 and 15, any texts");
        Random random = new Random(1);
        int tried = 0;
        for (int round = 0; round < 200000 && tried < 20000; round++) {
            Made made = make(random, 0, 0);
            if (made.text.length() > 50) {
                continue;
            }
            tried++;
            LipsThatFit x = new LipsThatFit();
            due("text(1) of " + made.text, Due.text(x, 1, made.text), 1);
            due(made.text, x.law(1, NAMED[0], NAMED[1], NAMED[2]), made.value);
            StringBuilder spoilt = new StringBuilder(made.text);
            String bytes = "01olt!(()|&<=>+-*/%f ";
            for (int i = 0; i <= random.nextInt(3); i++) {
                int at = random.nextInt(spoilt.length() + 1);
                char c = bytes.charAt(random.nextInt(bytes.length()));
                if (at == spoilt.length() || random.nextInt(3) == 0) {
                    spoilt.insert(at, c);
                } else if (random.nextBoolean() && spoilt.length() > 1) {
                    spoilt.deleteCharAt(at);
                } else {
                    spoilt.setCharAt(at, c);
                }
            }
            if (spoilt.length() <= 50) {
                int fault = PlainText.faultOf(spoilt.toString(), "olt");
                due("text(1) of " + spoilt, Due.text(x, 1, spoilt.toString()), fault < 0 ? 1 : -10 - fault);
            }
        }
        due("texts tried", tried, 20000);
    }

    public static void main(String[] args) {
        feed();
        faults();
        law();
        anyTexts();
        due.end();
    }
}
