import java.util.ArrayList;
import java.util.List;
import java.util.TreeSet;
import java.util.regex.Matcher;
import java.util.regex.Pattern;

/** Faults and worths told a second time, in other ways than the class does it. */
final class TextModel {
    private static final Pattern PLAN;

    static {
        String step = " *([tkohw]|d *\\d|y *\\d *\\d) *";
        PLAN = Pattern.compile(step + "(;" + step + "){0,15}");
    }

    private TextModel() {
    }

    static int planFault(String text) {
        for (int end = 1; end <= text.length(); end++) {
            Matcher matcher = PLAN.matcher(text.substring(0, end));
            if (!matcher.matches() && !matcher.hitEnd()) {
                return end - 1;
            }
        }
        return PLAN.matcher(text).matches() ? -1 : text.length();
    }

    static List<Integer> steps(String text) {
        List<Integer> steps = new ArrayList<>();
        for (String step : text.replace(" ", "").split(";")) {
            int plain = "tkohw".indexOf(step.charAt(0));
            int digits = step.length() > 1 ? Integer.parseInt(step.substring(1)) : 0;
            steps.add(plain >= 0 ? plain : step.charAt(0) == 'd' ? 10 + digits : 100 + digits);
        }
        return steps;
    }

    // Kitchens

    private static final String[] LETTERS = {"vsclwg", "pswte", "ac"};
    private static final int[][] LEAST = {{0, 0, 0, 0, 1, 1}, {0, 1, 0, 0, 0}, {0, 0}};
    private static final int[][] MOST = {{99, 99, 9, 1, 9, 99}, {99, 9, 9, 9, 9}, {99, 99}};
    private static final int[][] USUAL = {{20, 10, 0, 0, 5, 40}, {30, 5, 0, 2, 0}, {10, 5}};
    private static final int[] AT_MOST = {4, 6, 4};

    static int kitchenFault(String text) {
        int[] counts = new int[3];
        String state = "clause";
        int kind = -1;
        int letter = -1;
        String seen = "";
        int i = 0;
        while (i < text.length()) {
            char sign = text.charAt(i);
            if (sign == ' ') {
                i++;
            } else if (state.equals("clause")) {
                kind = "jht".indexOf(sign);
                if (kind < 0 || ++counts[kind] > AT_MOST[kind]) {
                    return i;
                }
                seen = "";
                state = "items";
                i++;
            } else if (state.equals("items")) {
                letter = LETTERS[kind].indexOf(sign);
                if (sign != ';' && (letter < 0 || seen.indexOf(sign) >= 0)) {
                    return i;
                }
                seen += sign;
                state = sign == ';' ? "clause" : "number";
                i++;
            } else {
                int from = i;
                while (i < text.length() && Character.isDigit(text.charAt(i)) && text.charAt(i) < 128) {
                    i++;
                }
                if (i == from) {
                    return i;
                }
                if (i - from > 2) {
                    return from + 2;
                }
                int value = Integer.parseInt(text.substring(from, i));
                if (value < LEAST[kind][letter] || value > MOST[kind][letter]) {
                    return i - 1;
                }
                state = "items";
            }
        }
        return state.equals("items") && counts[0] > 0 && counts[1] > 0 ? -1 : text.length();
    }

    /** The told rows of a kind, of a text without a fault. */
    static List<int[]> rows(String text, int kind) {
        List<int[]> rows = new ArrayList<>();
        for (String clause : text.replace(" ", "").split(";")) {
            if (clause.charAt(0) != "jht".charAt(kind)) {
                continue;
            }
            int[] row = USUAL[kind].clone();
            Matcher item = Pattern.compile("([a-z])(\\d+)").matcher(clause.substring(1));
            while (item.find()) {
                row[LETTERS[kind].indexOf(item.group(1))] = Integer.parseInt(item.group(2));
            }
            rows.add(row);
        }
        return rows;
    }

    // Laws: which prefixes, token by token, can still go on

    static int lawFault(String text) {
        StringBuilder tokens = new StringBuilder();
        List<Integer> places = new ArrayList<>();
        List<Integer> ends = new ArrayList<>();
        Matcher token = Pattern.compile("[0-9]+|[^ ]", Pattern.DOTALL).matcher(text);
        while (token.find()) {
            tokens.append(Character.isDigit(token.group().charAt(0)) ? 'n' : token.group().charAt(0) == 'n' ? '#' : token.group().charAt(0));
            places.add(token.start());
            ends.add(token.end());
        }
        for (int k = 0; k < places.size(); k++) {
            Recognizer prefix = new Recognizer(tokens.substring(0, k + 1));
            if (!prefix.law().contains(k + 1) && !prefix.touched) {
                return places.get(k);
            }
            if (tokens.charAt(k) == 'n' && ends.get(k) - places.get(k) > 4) {
                return places.get(k) + 4;
            }
        }
        return new Recognizer(tokens.toString()).law().contains(tokens.length()) ? -1 : text.length();
    }

    private static final class Recognizer {
        final String tokens;
        boolean touched;

        Recognizer(String tokens) {
            this.tokens = tokens;
        }

        TreeSet<Integer> law() {
            TreeSet<Integer> starts = new TreeSet<>();
            TreeSet<Integer> ends = new TreeSet<>();
            starts.add(0);
            while (!starts.isEmpty()) {
                TreeSet<Integer> bodies = sign(sign(starts, "y"), ":");
                TreeSet<Integer> behind = sums(bodies, 0);
                behind.addAll(sums(sign(conditions(bodies, 0), "?"), 0));
                starts = sign(behind, ";");
                starts.removeAll(ends);
                ends.addAll(behind);
            }
            return ends;
        }

        TreeSet<Integer> sign(TreeSet<Integer> starts, String signs) {
            TreeSet<Integer> ends = new TreeSet<>();
            for (int start : starts) {
                if (start == tokens.length()) {
                    touched = true;
                } else if (signs.indexOf(tokens.charAt(start)) >= 0) {
                    ends.add(start + 1);
                }
            }
            return ends;
        }

        TreeSet<Integer> chain(TreeSet<Integer> starts, int depth, int level, String signs) {
            TreeSet<Integer> all = new TreeSet<>();
            TreeSet<Integer> fresh = part(starts, depth, level);
            while (!fresh.isEmpty()) {
                all.addAll(fresh);
                TreeSet<Integer> more = part(sign(fresh, signs), depth, level);
                more.removeAll(all);
                fresh = more;
            }
            return all;
        }

        TreeSet<Integer> part(TreeSet<Integer> starts, int depth, int level) {
            switch (level) {
                case 0:
                    return chain(starts, depth, 1, "&");
                case 1:
                    return units(starts, depth);
                case 2:
                    return chain(starts, depth, 3, "*/");
                default:
                    return atoms(starts, depth);
            }
        }

        TreeSet<Integer> conditions(TreeSet<Integer> starts, int depth) {
            return starts.isEmpty() ? starts : chain(starts, depth, 0, "|");
        }

        TreeSet<Integer> sums(TreeSet<Integer> starts, int depth) {
            return starts.isEmpty() ? new TreeSet<>() : chain(starts, depth, 2, "+-");
        }

        TreeSet<Integer> units(TreeSet<Integer> starts, int depth) {
            TreeSet<Integer> ends = sums(sign(sums(starts, depth), "=<>"), depth);
            if (depth < 6) {
                TreeSet<Integer> negated = sign(starts, "!");
                if (!negated.isEmpty()) {
                    ends.addAll(units(negated, depth + 1));
                }
                ends.addAll(sign(conditions(sign(starts, "("), depth + 1), ")"));
            }
            return ends;
        }

        TreeSet<Integer> atoms(TreeSet<Integer> starts, int depth) {
            TreeSet<Integer> ends = sign(starts, "npswica");
            if (depth < 6) {
                ends.addAll(sign(sums(sign(starts, "["), depth + 1), "]"));
            }
            return ends;
        }
    }

    // Worths: by cutting the text at its outermost last sign

    static long worth(String law, int[] letters) {
        for (String clause : law.replace(" ", "").split(";")) {
            String body = clause.substring(2);
            int mark = body.indexOf('?');
            if (mark < 0 || holds(body.substring(0, mark), letters)) {
                return sum(body.substring(mark + 1), letters);
            }
        }
        return 0;
    }

    private static int lastOutermost(String text, String signs) {
        int depth = 0;
        for (int i = text.length() - 1; i >= 0; i--) {
            char sign = text.charAt(i);
            depth += ")]".indexOf(sign) >= 0 ? 1 : "([".indexOf(sign) >= 0 ? -1 : 0;
            if (depth == 0 && signs.indexOf(sign) >= 0) {
                return i;
            }
        }
        return -1;
    }

    private static boolean holds(String text, int[] letters) {
        int or = lastOutermost(text, "|");
        if (or >= 0) {
            return holds(text.substring(0, or), letters) || holds(text.substring(or + 1), letters);
        }
        int and = lastOutermost(text, "&");
        if (and >= 0) {
            return holds(text.substring(0, and), letters) && holds(text.substring(and + 1), letters);
        }
        if (text.charAt(0) == '!') {
            return !holds(text.substring(1), letters);
        }
        int relation = lastOutermost(text, "=<>");
        if (relation < 0) {
            return holds(text.substring(1, text.length() - 1), letters);
        }
        long left = sum(text.substring(0, relation), letters);
        long right = sum(text.substring(relation + 1), letters);
        return text.charAt(relation) == '=' ? left == right : text.charAt(relation) == '<' ? left < right : left > right;
    }

    private static long sum(String text, int[] letters) {
        int at = lastOutermost(text, "+-");
        if (at < 0) {
            at = lastOutermost(text, "*/");
        }
        if (at < 0) {
            if (text.charAt(0) == '[') {
                return sum(text.substring(1, text.length() - 1), letters);
            }
            int letter = "pswica".indexOf(text.charAt(0));
            return letter >= 0 ? letters[letter] : Long.parseLong(text);
        }
        long left = sum(text.substring(0, at), letters);
        long right = sum(text.substring(at + 1), letters);
        long value = switch (text.charAt(at)) {
            case '+' -> left + right;
            case '-' -> left - right;
            case '*' -> left * right;
            default -> right == 0 ? 0 : left / right;
        };
        return Math.max(-1000000, Math.min(1000000, value));
    }
}
