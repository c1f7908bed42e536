import java.util.ArrayList;
import java.util.List;

/**
 * A text for the model: faults by an automaton over the tokens with a stack of what is open,
 * values by cutting at the operator that binds least.
 */
final class Text {
    private static final String KEYS = " lets lucks takes or and not ";
    private static final String NAMES = " thing known kept tide luck more ";

    private final String all;
    private final List<String> tokens = new ArrayList<>();
    private final List<Integer> places = new ArrayList<>();

    Text(String all) {
        this.all = all;
        int i = 0;
        while (i < all.length()) {
            char c = all.charAt(i);
            int from = i++;
            if (c == ' ' || c == '\n') {
                continue;
            }
            while (i < all.length() && ((letter(c) && letter(all.charAt(i))) || (digit(c) && digit(all.charAt(i))))) {
                i++;
            }
            tokens.add(all.substring(from, i));
            places.add(from);
        }
    }

    private static boolean letter(char c) { return c >= 'a' && c <= 'z'; }

    private static boolean digit(char c) { return c >= '0' && c <= '9'; }

    private static boolean isOperand(String t) {
        return digit(t.charAt(0)) ? t.length() <= 4 : NAMES.contains(" " + t + " ");
    }

    private static boolean isKnown(String t) {
        return isOperand(t) || KEYS.contains(" " + t + " ") || (t.length() == 1 && "();+-*<=".contains(t));
    }

    /** What may stand next: K a word that begins a part, N a NOT, O a ONE, A what comes behind a ONE. */
    int fault() {
        String[] parts = {"lets", "lucks", "takes"};
        int part = 0;
        char next = 'K';
        StringBuilder open = new StringBuilder();
        List<Boolean> compared = new ArrayList<>(List.of(false));
        for (int i = 0; i < tokens.size(); i++) {
            String t = tokens.get(i);
            int place = places.get(i);
            int top = compared.size() - 1;
            if (!isKnown(t)) {
                return place;
            }
            if (next == 'K') {
                if (part == 3 || !t.equals(parts[part])) {
                    return place;
                }
                next = 'N';
            } else if (next != 'A') {
                if (isOperand(t)) {
                    closes(open, 'm');
                    next = 'A';
                    continue;
                }
                if (!(t.equals("(") || t.equals("-") || (t.equals("not") && next == 'N')) || open.length() == 5) {
                    return place;
                }
                open.append(t.equals("(") ? '(' : t.equals("-") ? 'm' : 'n');
                next = t.equals("-") ? 'O' : 'N';
                if (t.equals("(")) {
                    compared.add(false);
                }
            } else if ("+-*".contains(t)) {
                next = 'O';
            } else if ("<=".contains(t)) {
                if (compared.get(top)) {
                    return place;
                }
                compared.set(top, true);
                next = 'O';
            } else if (t.equals("and") || t.equals("or")) {
                closes(open, 'n');
                compared.set(top, false);
                next = 'N';
            } else if (t.equals(")")) {
                closes(open, 'n');
                if (open.length() == 0) {
                    return place;
                }
                open.setLength(open.length() - 1);
                closes(open, 'm');
                compared.remove(top);
            } else if (t.equals(";")) {
                closes(open, 'n');
                if (open.length() > 0) {
                    return place;
                }
                compared.set(0, false);
                part++;
                next = 'K';
            } else {
                return place;
            }
        }
        return next == 'K' && part == 3 ? -1 : all.length();
    }

    private static void closes(StringBuilder open, char what) {
        while (open.length() > 0 && open.charAt(open.length() - 1) == what) {
            open.setLength(open.length() - 1);
        }
    }

    int value(int part, int... names) {
        int from = 0;
        int to = tokens.indexOf(";");
        for (int i = 0; i < part; i++) {
            from = to + 1;
            to = from + tokens.subList(from, tokens.size()).indexOf(";");
        }
        return value(tokens.subList(from + 1, to), names);
    }

    private static int value(List<String> e, int[] names) {
        int at = last(e, "or");
        if (at >= 0) {
            return value(e.subList(0, at), names) != 0 | value(e.subList(at + 1, e.size()), names) != 0 ? 1 : 0;
        }
        at = last(e, "and");
        if (at >= 0) {
            return value(e.subList(0, at), names) != 0 & value(e.subList(at + 1, e.size()), names) != 0 ? 1 : 0;
        }
        if (e.get(0).equals("not")) {
            return value(e.subList(1, e.size()), names) == 0 ? 1 : 0;
        }
        for (String operators : new String[] {"<=", "+-", "*"}) {
            at = last(e, operators);
            if (at >= 0) {
                int a = value(e.subList(0, at), names);
                int b = value(e.subList(at + 1, e.size()), names);
                switch (e.get(at)) {
                    case "<": return a < b ? 1 : 0;
                    case "=": return a == b ? 1 : 0;
                    case "+": return a + b;
                    case "-": return a - b;
                    default: return a * b;
                }
            }
        }
        if (e.get(0).equals("-")) {
            return -value(e.subList(1, e.size()), names);
        }
        if (e.get(0).equals("(")) {
            return value(e.subList(1, e.size() - 1), names);
        }
        if (digit(e.get(0).charAt(0))) {
            return Integer.parseInt(e.get(0));
        }
        return names[List.of("thing", "known", "kept", "tide", "luck", "more").indexOf(e.get(0))];
    }

    /** The last operator of those told outside all brackets, that stands behind an operand. */
    private static int last(List<String> e, String operators) {
        int deep = 0;
        for (int i = e.size() - 1; i > 0; i--) {
            String t = e.get(i);
            deep += t.equals(")") ? 1 : t.equals("(") ? -1 : 0;
            boolean word = operators.length() > 1 && letter(operators.charAt(0));
            boolean told = word ? t.equals(operators) : t.length() == 1 && operators.contains(t);
            if (deep == 0 && told && (isOperand(e.get(i - 1)) || e.get(i - 1).equals(")"))) {
                return i;
            }
        }
        return -1;
    }
}
