/** TEXTS once more, not as the class reads them: FAULT by a walk over the bytes, what they give by cutting them. */
interface PlainText {
    int of(int a, int b, int c);

    /** What a TEXT without a FAULT gives by its NAMES: it is cut at the last of those signs that hold least. */
    static PlainText of(String text, String names) {
        for (String signs : new String[] {"|", "&", "<=>", "+-", "*/%"}) {
            int open = 0;
            for (int i = text.length() - 1; i > 0; i--) {
                char sign = text.charAt(i);
                open += sign == ')' ? 1 : sign == '(' ? -1 : 0;
                if (open == 0 && signs.indexOf(sign) >= 0) {
                    PlainText left = of(text.substring(0, i), names);
                    PlainText right = of(text.substring(i + 1), names);
                    return (a, b, c) -> joined(sign, left.of(a, b, c), right.of(a, b, c));
                }
            }
        }
        if (text.startsWith("!")) {
            PlainText rest = of(text.substring(1), names);
            return (a, b, c) -> rest.of(a, b, c) == 0 ? 1 : 0;
        }
        if (text.startsWith("(")) {
            return of(text.substring(1, text.length() - 1), names);
        }
        int name = names.indexOf(text.charAt(0));
        if (name >= 0) {
            return (a, b, c) -> name == 0 ? a : name == 1 ? b : c;
        }
        int number = Integer.parseInt(text);
        return (a, b, c) -> number;
    }

    static int joined(char sign, int a, int b) {
        return switch (sign) {
            case '|' -> a != 0 || b != 0 ? 1 : 0;
            case '&' -> a != 0 && b != 0 ? 1 : 0;
            case '<' -> a < b ? 1 : 0;
            case '=' -> a == b ? 1 : 0;
            case '>' -> a > b ? 1 : 0;
            case '+' -> a + b;
            case '-' -> a - b;
            case '*' -> a * b;
            case '/' -> b == 0 ? 0 : a / b;
            default -> b == 0 ? 0 : a % b;
        };
    }

    /** FAULT by a walk over the bytes with what is open as a stack; -1: none. */
    static int faultOf(String text, String names) {
        // each entry of the stack: '!' or '(' ; with '(' goes whether < = > came already in its B
        char[] stack = new char[8];
        boolean[] compared = new boolean[8];
        int top = 0;
        boolean operand = true;
        int digits = 0;
        for (int i = 0; i < text.length(); i++) {
            char c = text.charAt(i);
            if (operand) {
                if (c == '!' || c == '(') {
                    if (top == 5) {
                        return i;
                    }
                    top++;
                    stack[top] = c;
                    compared[top] = false;
                    continue;
                }
                boolean digit = c >= '0' && c <= '9';
                if (!digit && names.indexOf(c) < 0) {
                    return i;
                }
                digits = digit ? 1 : 9;
                operand = false;
            } else if (c >= '0' && c <= '9') {
                digits++;
                if (digits > 4) {
                    return i;
                }
                continue;
            } else if (c == ')') {
                if (top == 0) {
                    return i;
                }
                top--;
                digits = 9;
            } else if ("|&<=>+-*/%".indexOf(c) >= 0) {
                if ("<=>".indexOf(c) >= 0 && compared[top]) {
                    return i;
                }
                compared[top] = "<=>".indexOf(c) >= 0 || c != '|' && c != '&' && compared[top];
                operand = true;
            } else {
                return i;
            }
            while (!operand && top > 0 && stack[top] == '!') {
                top--;
            }
        }
        return operand || top > 0 ? text.length() : -1;
    }
}
