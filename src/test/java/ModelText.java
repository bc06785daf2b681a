import java.util.ArrayDeque;
import java.util.ArrayList;
import java.util.Deque;
import java.util.List;
import java.util.Map;
import java.util.Set;
import java.util.TreeMap;
import java.util.TreeSet;

/**
 * The text of a cellar, read a second time and in another way than the class reads it: all tokens at
 * first, then an automaton that looks at one token after the other, expressions with a stack of
 * parentheses; rules are evaluated by cutting them in two at their weakest operator.
 */
final class ModelText {
    record Token(int place, char kind, String text) {
        boolean is(String what) {
            return text.equals(what);
        }
    }

    private static final List<String> GOES = List.of("pace", "steps", "far", "with", "met", "day");
    private static final List<String> FADES = List.of("ink", "place", "deed", "with", "day");

    int fault = 0;
    int faultPlace = -1;
    final List<Integer> sizes = new ArrayList<>();
    final Map<Integer, Integer> ink = new TreeMap<>();
    final Set<Integer> stiles = new TreeSet<>();
    final List<int[]> people = new ArrayList<>();
    List<Token> goes = null;
    List<Token> fades = null;

    private final List<Token> tokens = new ArrayList<>();
    private int next = 0;

    ModelText(String text) {
        cutTokens(text);
        while (fault == 0 && peek().kind != 'E') {
            line();
        }
    }

    private void cutTokens(String text) {
        java.util.regex.Matcher m = java.util.regex.Pattern
                .compile("([a-z]+)|([0-9]+)|([;()+\\-*/<=])|([ \\n]+)|(.)", java.util.regex.Pattern.DOTALL).matcher(text);
        while (m.find()) {
            if (m.group(4) == null) {
                char kind = m.group(1) != null ? 'w' : m.group(2) != null ? 'n' : m.group(3) != null ? 's' : 'x';
                tokens.add(new Token(m.start(), kind, m.group()));
            }
        }
        tokens.add(new Token(text.length(), 'E', ""));
    }

    private Token peek() {
        return tokens.get(next);
    }

    private Token take() {
        return tokens.get(next++);
    }

    private boolean bad(int why, Token token) {
        if (fault == 0) {
            fault = why;
            faultPlace = token.place;
        }
        return false;
    }

    private void line() {
        Token head = peek();
        boolean fine;
        if (head.is("deed")) {
            fine = deed();
        } else if (head.is("stile")) {
            fine = stile();
        } else if (head.is("person")) {
            fine = person();
        } else if (head.is("goes")) {
            fine = goes == null ? rule(GOES) : bad(5, head);
        } else if (head.is("fades")) {
            fine = fades == null ? rule(FADES) : bad(5, head);
        } else {
            fine = bad(1, head);
        }
        if (fine && !peek().is(";")) {
            bad(1, peek());
        } else if (fine) {
            take();
        }
    }

    /** A number of at most 4 digits below a bound, or the fault. */
    private int number(int bound, int beyond) {
        Token token = peek();
        if (token.kind != 'n') {
            bad(1, token);
        } else if (token.text.length() > 4) {
            bad(2, token);
        } else if (Integer.parseInt(token.text) >= bound) {
            bad(beyond, token);
        } else {
            take();
            return Integer.parseInt(token.text);
        }
        return -1;
    }

    private boolean deed() {
        if (sizes.size() == 6) {
            return bad(2, peek());
        }
        take();
        int many = 0;
        do {
            if (many == 8) {
                return bad(2, peek());
            }
            int much = number(10, 2);
            if (much < 0) {
                return false;
            }
            ink.put(10 * sizes.size() + many, much);
            many++;
        } while (peek().kind == 'n');
        sizes.add(many);
        return true;
    }

    private boolean stile() {
        take();
        int deed = number(sizes.size() - 1, 3);
        if (deed < 0) {
            return false;
        }
        Token token = peek();
        int place = number(Math.min(sizes.get(deed), sizes.get(deed + 1)), 3);
        if (place < 0) {
            return false;
        }
        return stiles.add(10 * deed + place) || bad(4, token);
    }

    private int place() {
        int deed = number(sizes.size(), 3);
        if (deed < 0) {
            return -1;
        }
        int place = number(sizes.get(deed), 3);
        return place < 0 ? -1 : 10 * deed + place;
    }

    private boolean person() {
        if (people.size() == 6) {
            return bad(2, peek());
        }
        take();
        int at = place();
        if (at < 0) {
            return false;
        }
        int pace = number(10, 2);
        if (pace < 0) {
            return false;
        }
        int to = -1;
        if (peek().is("to")) {
            take();
            to = place();
            if (to < 0) {
                return false;
            }
        }
        people.add(new int[] {at, pace, to});
        return true;
    }

    /** An automaton: an operand is awaited, or there is one; the open expressions lie on a stack. */
    private boolean rule(List<String> values) {
        take();
        int from = next;
        Deque<Boolean> tested = new ArrayDeque<>();
        tested.push(false);
        boolean operandAwaited = true;
        boolean notCanStand = true;
        boolean exprBegins = true;
        int nots = 0;
        while (true) {
            Token token = peek();
            boolean word = token.kind == 'w';
            if (operandAwaited) {
                boolean operand = word || token.kind == 'n' || token.is("(");
                if (!operand) {
                    return bad(1, token);
                }
                if (exprBegins && tested.size() > 6) {
                    return bad(2, token);
                }
                exprBegins = false;
                if (token.is("not") && notCanStand) {
                    if (++nots == 7) {
                        return bad(2, token);
                    }
                } else if (token.is("(")) {
                    tested.push(false);
                    nots = 0;
                    notCanStand = true;
                    exprBegins = true;
                } else {
                    if (word && !values.contains(token.text)) {
                        return bad(3, token);
                    }
                    if (token.kind == 'n' && token.text.length() > 4) {
                        return bad(2, token);
                    }
                    operandAwaited = false;
                }
            } else if (token.is("or") || token.is("and")) {
                tested.pop();
                tested.push(false);
                nots = 0;
                notCanStand = true;
                operandAwaited = true;
            } else if (token.is("<") || token.is("=")) {
                if (tested.pop()) {
                    return bad(1, token);
                }
                tested.push(true);
                notCanStand = false;
                operandAwaited = true;
            } else if (token.kind == 's' && "+-*/".contains(token.text)) {
                notCanStand = false;
                operandAwaited = true;
            } else if (token.is(")") && tested.size() > 1) {
                tested.pop();
            } else if (token.is(";") && tested.size() == 1) {
                List<Token> all = new ArrayList<>(tokens.subList(from, next));
                if (values == GOES) {
                    goes = all;
                } else {
                    fades = all;
                }
                return true;
            } else {
                return bad(1, token);
            }
            take();
        }
    }

    /** From the weakest operators on; of like ones the last, as they are taken from the left. */
    static int evaluate(List<Token> row, Map<String, Integer> values) {
        for (List<String> operators : List.of(List.of("or"), List.of("and"), List.of("not"), List.of("<", "="),
                List.of("+", "-"), List.of("*", "/"))) {
            int at = operators.contains("not") ? (row.get(0).is("not") ? 0 : -1) : lastOutside(row, operators);
            if (at == 0) {
                return evaluate(row.subList(1, row.size()), values) == 0 ? 1 : 0;
            }
            if (at > 0) {
                int a = evaluate(row.subList(0, at), values);
                int b = evaluate(row.subList(at + 1, row.size()), values);
                return join(row.get(at).text, a, b);
            }
        }
        if (row.size() > 1) {
            return evaluate(row.subList(1, row.size() - 1), values);
        }
        Token one = row.get(0);
        return one.kind == 'n' ? Integer.parseInt(one.text) : values.get(one.text);
    }

    private static int lastOutside(List<Token> row, List<String> operators) {
        int open = 0;
        for (int i = row.size() - 1; i > 0; i--) {
            open += row.get(i).is(")") ? 1 : row.get(i).is("(") ? -1 : 0;
            if (open == 0 && operators.contains(row.get(i).text)) {
                return i;
            }
        }
        return -1;
    }

    private static int join(String operator, int a, int b) {
        return switch (operator) {
            case "or" -> a != 0 || b != 0 ? 1 : 0;
            case "and" -> a != 0 && b != 0 ? 1 : 0;
            case "<" -> a < b ? 1 : 0;
            case "=" -> a == b ? 1 : 0;
            case "+" -> a + b;
            case "-" -> a - b;
            case "*" -> a * b;
            default -> b == 0 ? 0 : a / b;
        };
    }
}
