import java.util.ArrayDeque;
import java.util.ArrayList;
import java.util.Arrays;
import java.util.Deque;
import java.util.HashSet;
import java.util.List;
import java.util.Map;
import java.util.Set;
import java.util.regex.Matcher;
import java.util.regex.Pattern;

/** A text told to the model: faults by a row of expected kinds and, in a rule, by what may come next. */
final class ModelText {
    private static final Set<String> VALUES =
        new HashSet<>(Arrays.asList("goods", "debt", "foe", "friend", "kin", "listed", "day", "sales"));
    private static final Pattern TOKEN = Pattern.compile("[a-z]+|[0-9]+|[^ \n]", Pattern.DOTALL);

    final List<Integer> debts = new ArrayList<>();
    final List<Integer> dangers = new ArrayList<>();
    final List<int[]> ways = new ArrayList<>();
    final List<int[]> people = new ArrayList<>();
    final List<int[]> kin = new ArrayList<>();
    final List<int[]> ties = new ArrayList<>();
    List<String> rule;
    int fault;
    int place = -1;

    private final List<String> tokens = new ArrayList<>();
    private final List<Integer> starts = new ArrayList<>();
    private int at;

    ModelText(String text) {
        Matcher matcher = TOKEN.matcher(text);
        while (matcher.find()) {
            tokens.add(matcher.group());
            starts.add(matcher.start());
        }
        tokens.add("");
        starts.add(text.length());
        while (fault == 0 && at < tokens.size() - 1) {
            line();
        }
    }

    private void wrong(int which) {
        if (fault == 0) {
            fault = which;
            place = starts.get(at);
        }
    }

    private String token() {
        return tokens.get(at);
    }

    private boolean isNumber() {
        return token().matches("[0-9]+");
    }

    private boolean isWord() {
        return token().matches("[a-z]+");
    }

    private void line() {
        switch (token()) {
            case "master": row(debts.size() < 3, "D999", 0); break;
            case "place": row(dangers.size() < 8, "D9", 1); break;
            case "sea": row(dangers.size() < 8, "", 2); break;
            case "way": row(ways.size() < 12, "P P D60", 3); break;
            case "person": row(people.size() < 9, "D99 P", 4); break;
            case "kin": row(kin.size() < 9, "O O", 5); break;
            case "friend": row(ties.size() < 12, "M O", 6); break;
            case "foe": row(ties.size() < 12, "M O", 7); break;
            case "writes": writes(); break;
            default: wrong(1);
        }
    }

    private void row(boolean fits, String kinds, int line) {
        if (!fits) {
            wrong(2);
            return;
        }
        at++;
        int[] got = new int[3];
        String[] all = kinds.isEmpty() ? new String[0] : kinds.split(" ");
        for (int i = 0; i < all.length; i++) {
            if (!isNumber()) {
                wrong(1);
                return;
            }
            if (token().length() > 4) {
                wrong(2);
                return;
            }
            got[i] = Integer.parseInt(token());
            int most = all[i].length() > 1 ? Integer.parseInt(all[i].substring(1)) : 9999;
            int told = "P".equals(all[i]) ? dangers.size() : "O".equals(all[i]) ? people.size()
                : "M".equals(all[i]) ? debts.size() : 10000;
            if (got[i] > most) {
                wrong(2);
                return;
            }
            if (got[i] >= told) {
                wrong(3);
                return;
            }
            if (i == 1 && isTwice(line, got[0], got[1])) {
                wrong(4);
                return;
            }
            at++;
        }
        if (!token().equals(";")) {
            wrong(1);
            return;
        }
        at++;
        keep(line, got);
    }

    private boolean isTwice(int line, int a, int b) {
        switch (line) {
            case 3: return a == b || ways.stream().anyMatch(w -> w[0] == a && w[1] == b || w[0] == b && w[1] == a);
            case 5: return a == b || areKin(a, b);
            case 6: case 7: return tie(a, b) >= 0;
            default: return false;
        }
    }

    private void keep(int line, int[] got) {
        switch (line) {
            case 0: debts.add(got[0]); break;
            case 1: dangers.add(got[0]); break;
            case 2: dangers.add(-1); break;
            case 3: ways.add(got); break;
            case 4: people.add(got); break;
            case 5: kin.add(got); break;
            default: ties.add(new int[] {got[0], got[1], line == 6 ? 1 : 0});
        }
    }

    boolean isSea(int place) {
        return dangers.get(place) < 0;
    }

    boolean areKin(int a, int b) {
        return kin.stream().anyMatch(k -> k[0] == a && k[1] == b || k[0] == b && k[1] == a);
    }

    /** 1 a friend, 0 a foe, -1 neither. */
    int tie(int master, int person) {
        for (int[] tie : ties) {
            if (tie[0] == master && tie[1] == person) {
                return tie[2];
            }
        }
        return -1;
    }

    /** Token by token: an operand or what may follow one, with the parentheses that are open. */
    private void writes() {
        if (rule != null) {
            wrong(5);
            return;
        }
        at++;
        int first = at;
        Deque<Boolean> compared = new ArrayDeque<>();
        compared.push(false);
        boolean operand = true;
        boolean notMayCome = true;
        boolean begins = true;
        int nots = 0;
        while (fault == 0) {
            String t = token();
            if (operand) {
                if (!isNumber() && !isWord() && !t.equals("(")) {
                    wrong(1);
                } else if (begins && compared.size() > 6) {
                    wrong(2);
                } else if (t.equals("not") && notMayCome) {
                    nots++;
                    if (nots == 7) {
                        wrong(2);
                    }
                } else if (isWord() && !VALUES.contains(t)) {
                    wrong(3);
                } else if (isNumber() && t.length() > 4) {
                    wrong(2);
                } else if (t.equals("(")) {
                    compared.push(false);
                    notMayCome = true;
                    nots = 0;
                    at++;
                    begins = true;
                    continue;
                } else {
                    operand = false;
                }
                begins = false;
            } else if (t.equals("and") || t.equals("or")) {
                operand = true;
                notMayCome = true;
                nots = 0;
                compared.pop();
                compared.push(false);
            } else if (t.length() == 1 && "+-*/".contains(t)) {
                operand = true;
                notMayCome = false;
            } else if ((t.equals("<") || t.equals("=")) && !compared.peek()) {
                operand = true;
                notMayCome = false;
                compared.pop();
                compared.push(true);
            } else if (t.equals(")") && compared.size() > 1) {
                compared.pop();
            } else if (t.equals(";") && compared.size() == 1) {
                rule = new ArrayList<>(tokens.subList(first, at));
                at++;
                return;
            } else {
                wrong(1);
            }
            at++;
        }
    }

    /** Splits at the last sign of the weakest kind that stands in no parentheses. */
    static int value(List<String> rule, Map<String, Integer> values) {
        String[][] kinds = {{"or"}, {"and"}, {"not"}, {"<", "="}, {"+", "-"}, {"*", "/"}};
        for (String[] kind : kinds) {
            if (kind[0].equals("not")) {
                if (rule.get(0).equals("not")) {
                    return value(rule.subList(1, rule.size()), values) == 0 ? 1 : 0;
                }
                continue;
            }
            int depth = 0;
            for (int i = rule.size() - 1; i > 0; i--) {
                String t = rule.get(i);
                depth += t.equals(")") ? 1 : t.equals("(") ? -1 : 0;
                if (depth == 0 && Arrays.asList(kind).contains(t)) {
                    int a = value(rule.subList(0, i), values);
                    int b = value(rule.subList(i + 1, rule.size()), values);
                    return apply(t, a, b);
                }
            }
        }
        String t = rule.get(0);
        if (t.equals("(")) {
            return value(rule.subList(1, rule.size() - 1), values);
        }
        return values.containsKey(t) ? values.get(t) : Integer.parseInt(t);
    }

    private static int apply(String sign, int a, int b) {
        switch (sign) {
            case "or": return a != 0 || b != 0 ? 1 : 0;
            case "and": return a != 0 && b != 0 ? 1 : 0;
            case "<": return a < b ? 1 : 0;
            case "=": return a == b ? 1 : 0;
            case "+": return a + b;
            case "-": return a - b;
            case "*": return a * b;
            default: return b == 0 ? 0 : (int) ((long) a / b);
        }
    }
}
