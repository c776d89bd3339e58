import java.util.ArrayDeque;
import java.util.ArrayList;
import java.util.Deque;
import java.util.List;
import java.util.Set;

/** A text for the Model: its fault by a stack of what is due, its answers by cutting it into parts. */
final class ModelText {
    private static final Set<String> WITH_SUM = Set.of("weight", "reads", "notes", "copies", "adds");
    private static final Set<String> WITHOUT = Set.of("late", "struck");
    private static final List<String> WORDS =
        List.of("place", "chapter", "wording", "shared", "land", "hand", "kind", "lists", "looked");

    private static final class Broken extends Exception {
        private static final long serialVersionUID = 1;
    }

    private final List<String> tokens = new ArrayList<>();
    private final List<Integer> starts = new ArrayList<>();
    private final int size;
    private int[] asked;

    ModelText(List<Integer> bytes) {
        size = bytes.size();
        String all = "";
        for (int b : bytes) {
            all += (char) b;
        }
        java.util.regex.Matcher m = java.util.regex.Pattern.compile("[a-z]+|[0-9]+|[^ ]", java.util.regex.Pattern.DOTALL)
            .matcher(all);
        while (m.find()) {
            tokens.add(m.group());
            starts.add(m.start());
        }
    }

    private static boolean isPart(String token) {
        return WORDS.contains(token) || token.matches("0*(\\d{1,3}|1000)");
    }

    /** The place of the first token that can't go on; -1 without. */
    int fault() {
        Deque<String> due = new ArrayDeque<>();
        push(due, "CLAUSE", "CLAUSES", "END");
        int clauses = 0;
        int parts = 0;
        for (int i = 0; i <= tokens.size(); i++) {
            String t = i < tokens.size() ? tokens.get(i) : "END";
            int place = i < tokens.size() ? starts.get(i) : size;
            boolean taken = false;
            while (!taken) {
                String top = due.pop();
                switch (top) {
                    case "CLAUSE" -> {
                        clauses++;
                        boolean sum = WITH_SUM.contains(t);
                        if (clauses > 12 || !sum && !WITHOUT.contains(t)) {
                            return place;
                        }
                        push(due, sum ? new String[] {"SUM", "IF"} : new String[] {"IF"});
                        taken = true;
                    }
                    case "CLAUSES" -> taken = more(due, t, ";", "CLAUSE", "CLAUSES");
                    case "IF" -> taken = more(due, t, "if", "TEST");
                    case "TEST" -> push(due, "BOTH", "ORS");
                    case "ORS" -> taken = more(due, t, "or", "BOTH", "ORS");
                    case "BOTH" -> push(due, "PLAIN", "ANDS");
                    case "ANDS" -> taken = more(due, t, "and", "PLAIN", "ANDS");
                    case "PLAIN" -> {
                        if (t.equals("not")) {
                            push(due, "PLAIN");
                            taken = true;
                        } else if (t.equals("(")) {
                            if (deep(due) >= 8) {
                                return place;
                            }
                            push(due, "TEST", ")");
                            taken = true;
                        } else {
                            push(due, "SUM", "CMP", "SUM");
                        }
                    }
                    case "SUM" -> push(due, "TERM", "SUMS");
                    case "SUMS" -> taken = more(due, t, "+", "TERM", "SUMS") || more(due, t, "-", "TERM", "SUMS");
                    case "TERM" -> push(due, "PART", "TERMS");
                    case "TERMS" -> taken = more(due, t, "*", "PART", "TERMS") || more(due, t, "/", "PART", "TERMS");
                    case "PART" -> {
                        if (t.equals("[") && deep(due) < 8) {
                            push(due, "SUM", "]");
                        } else {
                            if (!isPart(t) || ++parts > 50) {
                                return place;
                            }
                        }
                        taken = true;
                    }
                    case "CMP" -> {
                        if (!Set.of("<", ">", "=").contains(t)) {
                            return place;
                        }
                        taken = true;
                    }
                    default -> {
                        if (!top.equals(t)) {
                            return place;
                        }
                        taken = true;
                    }
                }
            }
        }
        return -1;
    }

    private static int deep(Deque<String> due) {
        int deep = 0;
        for (String s : due) {
            deep += s.equals(")") || s.equals("]") ? 1 : 0;
        }
        return deep;
    }

    private static void push(Deque<String> due, String... symbols) {
        for (int i = symbols.length - 1; i >= 0; i--) {
            due.push(symbols[i]);
        }
    }

    private static boolean more(Deque<String> due, String token, String sign, String... symbols) {
        if (token.equals(sign)) {
            push(due, symbols);
            return true;
        }
        return false;
    }


    /** What a head tells; null without. */
    Long told(String head, int... of) {
        asked = of;
        Long told = null;
        for (int[] clause : split(0, tokens.size(), ";")) {
            if (tokens.get(clause[0]).equals(head)) {
                List<int[]> parts = split(clause[0], clause[1], "if");
                try {
                    if (parts.size() == 1 || test(parts.get(1)[0], parts.get(1)[1])) {
                        told = sum(parts.get(0)[0] + 1, parts.get(0)[1]);
                    }
                } catch (Broken broken) {
                    continue;
                }
            }
        }
        return told;
    }

    boolean holds(String head, int... of) {
        asked = of;
        boolean holds = false;
        for (int[] clause : split(0, tokens.size(), ";")) {
            if (tokens.get(clause[0]).equals(head)) {
                List<int[]> parts = split(clause[0], clause[1], "if");
                try {
                    holds |= parts.size() == 1 || test(parts.get(1)[0], parts.get(1)[1]);
                } catch (Broken broken) {
                    continue;
                }
            }
        }
        return holds;
    }

    private List<int[]> split(int from, int to, String... signs) {
        List<int[]> parts = new ArrayList<>();
        int depth = 0;
        int start = from;
        for (int i = from; i < to; i++) {
            String t = tokens.get(i);
            depth += t.equals("(") || t.equals("[") ? 1 : t.equals(")") || t.equals("]") ? -1 : 0;
            if (depth == 0 && List.of(signs).contains(t)) {
                parts.add(new int[] {start, i});
                start = i + 1;
            }
        }
        parts.add(new int[] {start, to});
        return parts;
    }

    private boolean test(int from, int to) throws Broken {
        for (int[] both : split(from, to, "or")) {
            boolean so = true;
            for (int[] plain : split(both[0], both[1], "and")) {
                if (!plain(plain[0], plain[1])) {
                    so = false;
                    break;
                }
            }
            if (so) {
                return true;
            }
        }
        return false;
    }

    private boolean plain(int from, int to) throws Broken {
        if (tokens.get(from).equals("not")) {
            return !plain(from + 1, to);
        }
        if (tokens.get(from).equals("(")) {
            return test(from + 1, to - 1);
        }
        List<int[]> sums = split(from, to, "<", ">", "=");
        long one = sum(sums.get(0)[0], sums.get(0)[1]);
        long two = sum(sums.get(1)[0], sums.get(1)[1]);
        String sign = tokens.get(sums.get(0)[1]);
        return sign.equals("<") ? one < two : sign.equals(">") ? one > two : one == two;
    }

    private long sum(int from, int to) throws Broken {
        long sum = 0;
        for (int[] term : split(from, to, "+", "-")) {
            long value = term(term[0], term[1]);
            boolean less = term[0] > from && tokens.get(term[0] - 1).equals("-");
            sum = bounded(less ? sum - value : sum + value);
        }
        return sum;
    }

    private long term(int from, int to) throws Broken {
        long product = 1;
        for (int[] part : split(from, to, "*", "/")) {
            long value = part(part[0], part[1]);
            if (part[0] > from && tokens.get(part[0] - 1).equals("/")) {
                if (value == 0) {
                    throw new Broken();
                }
                product = product / value;
            } else {
                product = bounded(product * value);
            }
        }
        return product;
    }

    private static long bounded(long value) throws Broken {
        if (Math.abs(value) > 1000000000L) {
            throw new Broken();
        }
        return value;
    }

    private long part(int from, int to) throws Broken {
        String t = tokens.get(from);
        if (t.equals("[")) {
            return sum(from + 1, to - 1);
        }
        int word = WORDS.indexOf(t);
        return word < 0 ? Long.parseLong(t) : asked[word];
    }
}
