import java.util.ArrayList;
import java.util.List;
import java.util.regex.Matcher;
import java.util.regex.Pattern;

/**
 * A text, found fit by what may follow what (frames for parentheses, no descent), then told by splitting its tokens
 * at the operator that binds least: another way than the one that JoinDraws goes.
 */
final class ModelText {
    private static final Pattern TOKEN = Pattern.compile("[a-z]+|[0-9]+|[();+\\-*%<=]");
    private static final List<String> KEYS = List.of("fits", "or", "and", "not");
    private static final List<String> NAMES = List.of("a", "b", "c", "d", "e", "f", "row", "from", "copies");

    int fault = -1;
    private final List<String> tokens = new ArrayList<>();
    private final List<Integer> places = new ArrayList<>();

    ModelText(String tape) {
        int at = 0;
        while (fault < 0) {
            while (at < tape.length() && (tape.charAt(at) == ' ' || tape.charAt(at) == '\n')) {
                at++;
            }
            if (at == tape.length()) {
                break;
            }
            Matcher m = TOKEN.matcher(tape).region(at, tape.length());
            boolean is = m.lookingAt();
            String token = is ? m.group() : "@";
            boolean word = Character.isLetter(token.charAt(0));
            boolean number = Character.isDigit(token.charAt(0));
            if (!is || word && !KEYS.contains(token) && !NAMES.contains(token) || number && token.length() > 4) {
                token = "@";
            }
            tokens.add(token);
            places.add(at);
            if (token.equals("@")) {
                break;
            }
            at = m.end();
        }
        judge(tape.length());
    }

    private static final class Frame {
        boolean compared = false;
        int nots = 0;
        int minuses = 0;
    }

    private void judge(int size) {
        List<Frame> frames = new ArrayList<>();
        frames.add(new Frame());
        // 0 ahead of fits, 1 a NOT is due, 2 a ONE is due, 3 behind a ONE, 4 behind ;
        int state = 0;
        for (int i = 0; i < tokens.size(); i++) {
            String t = tokens.get(i);
            Frame f = frames.get(frames.size() - 1);
            int open = frames.size() - 1;
            for (Frame some : frames) {
                open += some.nots + some.minuses;
            }
            int next = -1;
            if (state == 0) {
                next = t.equals("fits") ? 1 : -1;
            } else if (state == 1 && t.equals("not")) {
                next = open < 5 ? 1 : -1;
                f.nots++;
            } else if ((state == 1 || state == 2) && t.equals("-")) {
                next = open < 5 ? 2 : -1;
                f.minuses++;
            } else if ((state == 1 || state == 2) && t.equals("(")) {
                next = open < 5 ? 1 : -1;
                frames.add(new Frame());
            } else if (state == 1 || state == 2) {
                next = NAMES.contains(t) || Character.isDigit(t.charAt(0)) ? 3 : -1;
                f.minuses = 0;
            } else if (state == 3 && (t.equals("and") || t.equals("or"))) {
                next = 1;
                f.nots = 0;
                f.compared = false;
            } else if (state == 3 && (t.equals("<") || t.equals("="))) {
                next = f.compared ? -1 : 2;
                f.compared = true;
            } else if (state == 3 && "+-*%".contains(t)) {
                next = 2;
            } else if (state == 3 && t.equals(")") && frames.size() > 1) {
                next = 3;
                frames.remove(frames.size() - 1);
                frames.get(frames.size() - 1).minuses = 0;
            } else if (state == 3 && t.equals(";") && frames.size() == 1) {
                next = 4;
            }
            if (next < 0) {
                fault = places.get(i);
                return;
            }
            state = next;
        }
        if (state != 4) {
            fault = size;
        }
    }

    int tell(Model.Rel of, Model.Row row) {
        return tell(tokens.subList(1, tokens.size() - 1), of, row);
    }

    private int tell(List<String> some, Model.Rel of, Model.Row row) {
        for (List<String> level : List.of(List.of("or"), List.of("and"), List.of("not"), List.of("<", "="),
            List.of("+", "-"), List.of("*", "%"))) {
            if (level.contains("not")) {
                if (some.get(0).equals("not")) {
                    return tell(some.subList(1, some.size()), of, row) == 0 ? 1 : 0;
                }
                continue;
            }
            int at = lastOf(some, level);
            if (at > 0) {
                int x = tell(some.subList(0, at), of, row);
                int y = tell(some.subList(at + 1, some.size()), of, row);
                switch (some.get(at)) {
                    case "or": return x != 0 | y != 0 ? 1 : 0;
                    case "and": return x != 0 & y != 0 ? 1 : 0;
                    case "<": return x < y ? 1 : 0;
                    case "=": return x == y ? 1 : 0;
                    case "+": return x + y;
                    case "-": return x - y;
                    case "*": return x * y;
                    default: return y == 0 ? 0 : (int) ((long) x % y);
                }
            }
        }
        String first = some.get(0);
        if (first.equals("-")) {
            return -tell(some.subList(1, some.size()), of, row);
        }
        if (first.equals("(")) {
            return tell(some.subList(1, some.size() - 1), of, row);
        }
        if (first.equals("row")) {
            return row.number;
        }
        if (first.equals("from")) {
            return of.number;
        }
        if (first.equals("copies")) {
            return row.copies;
        }
        return Character.isDigit(first.charAt(0)) ? Integer.parseInt(first) : row.values.getOrDefault(first.charAt(0) - 'a', -1);
    }

    /** The last place, outside parentheses, of an operator between two operands. */
    private static int lastOf(List<String> some, List<String> signs) {
        int depth = 0;
        int found = -1;
        boolean operandAhead = false;
        for (int i = 0; i < some.size(); i++) {
            String t = some.get(i);
            depth += t.equals("(") ? 1 : t.equals(")") ? -1 : 0;
            if (depth == 0 && operandAhead && signs.contains(t)) {
                found = i;
            }
            operandAhead = t.equals(")") || NAMES.contains(t) || Character.isDigit(t.charAt(0));
        }
        return found;
    }
}
