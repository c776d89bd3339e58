import java.lang.reflect.Method;
import java.nio.charset.StandardCharsets;
import java.util.ArrayList;
import java.util.List;
import java.util.Random;

/** Runs of calls drawn by chance (always the same ones), each answer against the Model's. */
public final class ModelTest {
    private static final String[] WORDS =
        {"place", "chapter", "wording", "shared", "land", "hand", "kind", "lists", "looked"};
    private static final String[] STRAY =
        {";", "if", "or", "and", "not", "(", ")", "[", "]", "<", "=", ">", "+", "-", "*", "/", "1001", "7", "weight",
            "late", "place", "x", "P", "\u00ff", ":", "struck", "reads"};
    private static final String[] QUERIES = {"of", "trimmed", "fault", "weight", "may", "cost", "tree", "whose", "sure",
        "come", "net", "agree", "families", "family", "joins", "times", "written", "towns", "dates", "read", "stops",
        "many", "chao", "censor", "late", "next", "world", "count", "status"};

    private final Random random;
    private SkyMargins real = new SkyMargins();
    private Model model = new Model();
    private final StringBuilder told = new StringBuilder();
    private int calls;
    private int copies;
    private int places;
    private int wordings;
    private int towns;
    private int years;
    private int forms;
    private int lands;
    private final int[] mixture = new int[11];

    private ModelTest(long seed) {
        random = new Random(seed);
    }

    public static void main(String[] args) throws Exception {
        int runs = args.length > 0 ? Integer.parseInt(args[0]) : 400;
        long from = args.length > 1 ? Long.parseLong(args[1]) : 1;
        long all = 0;
        for (long seed = from; seed < from + runs; seed++) {
            ModelTest test = new ModelTest(seed);
            if (!test.play()) {
                System.out.println("run " + seed + ":\n" + test.told);
                System.exit(1);
            }
            all += test.calls;
        }
        System.out.println(runs + " runs, " + all + " calls as the model");
    }

    private int below(int n) {
        return random.nextInt(n);
    }

    private boolean chance(int of) {
        return below(of) == 0;
    }

    private boolean play() throws Exception {
        copies = new int[] {2, 3, 4, 5, 6, 8, 12}[below(7)];
        places = new int[] {3, 6, 15, 60}[below(4)];
        wordings = new int[] {1, 2, 5, 100}[below(4)];
        towns = new int[] {1, 2, 4, 32}[below(4)];
        years = new int[] {1, 5, 50, 401}[below(4)];
        forms = new int[] {3, 10, 30, 100}[below(4)];
        lands = new int[] {1, 2, 8}[below(3)];
        for (int kind = 0; kind < mixture.length; kind++) {
            mixture[kind] = new int[] {0, 1, 1, 2, 5}[below(5)];
        }
        mixture[0] = 2;
        mixture[10] += 3;
        if (chance(4) && !manyForms()) {
            return false;
        }
        while (calls < 505) {
            boolean fine;
            int kind = below(20);
            if (kind < 9 || calls < 30) {
                fine = change();
            } else if (kind < 10) {
                fine = text();
            } else {
                fine = ask();
            }
            if (!fine) {
                return false;
            }
        }
        return true;
    }

    private boolean manyForms() throws Exception {
        boolean fine = true;
        for (int hand = 0; hand < 4 && fine; hand++) {
            fine = call("hand", below(100), 300 + below(101));
            for (int form = 0; form < 6 && fine; form++) {
                fine = call("form", hand, form, below(forms)) && call("sample", hand, form, below(chance(2) ? 4 : forms));
            }
        }
        return fine;
    }

    private boolean call(String name, int... args) throws Exception {
        Class<?>[] types = new Class<?>[args.length];
        Object[] given = new Object[args.length];
        for (int i = 0; i < args.length; i++) {
            types[i] = int.class;
            given[i] = args[i];
        }
        Method one = SkyMargins.class.getMethod(name, types);
        Method two = Model.class.getMethod(name, types);
        Object got = one.invoke(real, given);
        Object want = two.invoke(model, given);
        calls++;
        told.append(name).append(java.util.Arrays.toString(args)).append(" ").append(got);
        if (!got.equals(want)) {
            told.append(" but the model ").append(want);
        }
        told.append("\n");
        return got.equals(want);
    }

    /** Mostly below a bound, at times just out of it or far away. */
    private int about(int bound) {
        if (chance(40)) {
            return new int[] {-1, bound, bound + 1, -2, Integer.MIN_VALUE, Integer.MAX_VALUE, 63, 400}[below(8)];
        }
        return below(bound);
    }

    private int aCopy() {
        return about(Math.max(1, real.count(0)));
    }

    private int aHand() {
        return about(Math.max(1, real.count(2)));
    }

    private int aText() {
        return chance(8) ? -1 : about(Math.max(1, real.count(4)));
    }

    /** Which kind of change: each run has its own mixture. */
    private int mixed() {
        int all = 0;
        for (int weight : mixture) {
            all += weight;
        }
        int at = below(all);
        int kind = 0;
        while (at >= mixture[kind]) {
            at -= mixture[kind];
            kind++;
        }
        return kind;
    }

    private boolean change() throws Exception {
        switch (mixed()) {
            case 0:
                return real.count(0) < copies || chance(20) ? call("copy", about(lands), about(64)) : note();
            case 1:
                return call("look", aCopy(), chance(20) ? about(2) : below(4) > 0 ? 1 : 0);
            case 2:
                int from = about(years);
                return call("stay", aCopy(), about(towns), from, chance(20) ? about(402) : from + below(1 + years / 4));
            case 3:
                return call("hand", below(200), chance(20) ? about(401) : 200 + below(201));
            case 4:
                return call("form", aHand(), about(6), about(forms));
            case 5:
                return call("sample", about(8), about(6), about(forms));
            case 6:
                return call("terms", below(4), chance(3) ? about(60) : 1 + below(9));
            case 7:
                return call("use", aText());
            case 8:
                return call(chance(2) ? "image" : "back", chance(9) ? about(2) : below(2));
            case 9:
                return row();
            default:
                return note();
        }
    }

    private boolean note() throws Exception {
        int kind = chance(4) ? below(4) : 0;
        kind = chance(50) ? about(4) : kind;
        int hand = chance(2) ? -1 : aHand();
        return call("note", aCopy(), about(places), kind > 0 && !chance(20) ? 0 : about(wordings), hand, kind);
    }

    private boolean feed(byte[] bytes) throws Exception {
        if (!call("end", 0)) {
            return false;
        }
        for (int at = 0; at < bytes.length; at += 20) {
            int[] n = new int[5];
            for (int i = 0; i < 20; i++) {
                n[i / 4] |= (at + i < bytes.length ? bytes[at + i] & 255 : 0) << 24 - i % 4 * 8;
            }
            if (!call("feed", n)) {
                return false;
            }
        }
        return call("end", chance(30) ? about(401) : bytes.length);
    }

    private boolean row() throws Exception {
        byte[] bytes = new byte[chance(4) ? below(400) : below(60)];
        for (int i = 0; i < bytes.length; i++) {
            int most = i % 3 == 0 ? places : i % 3 == 1 ? wordings : 12;
            bytes[i] = (byte) (chance(20) ? below(256) : i % 3 == 2 && chance(2) ? 255 : below(most));
        }
        return feed(bytes) && call("row", aCopy());
    }

    private boolean text() throws Exception {
        List<String> tokens = new ArrayList<>();
        int clauses = chance(10) ? 11 + below(3) : 1 + below(6);
        for (int c = 0; c < clauses; c++) {
            if (c > 0) {
                tokens.add(";");
            }
            clause(tokens);
        }
        if (chance(4)) {
            int at = below(tokens.size() + 1);
            if (chance(2) && at < tokens.size()) {
                tokens.remove(at);
            }
            tokens.add(Math.min(at, tokens.size()), STRAY[below(STRAY.length)]);
        }
        StringBuilder all = new StringBuilder();
        for (String token : tokens) {
            char last = all.length() == 0 ? ' ' : all.charAt(all.length() - 1);
            boolean must = Character.isLetterOrDigit(last) && Character.isLetterOrDigit(token.charAt(0)) && !chance(60);
            all.append(must || chance(9) ? " " : "").append(token);
        }
        all.append(chance(9) ? " " : "");
        String text = all.length() > 400 ? all.substring(0, 400) : all.toString();
        told.append("text ").append(text).append("\n");
        return feed(text.getBytes(StandardCharsets.ISO_8859_1)) && call("text") && call("fault")
            && call("use", chance(5) ? aText() : real.count(4) - 1);
    }

    private void clause(List<String> tokens) {
        String[] heads = {"weight", "weight", "reads", "notes", "copies", "adds", "late", "struck", "struck"};
        int head = below(heads.length);
        tokens.add(heads[head]);
        if (head < 6) {
            if (chance(2)) {
                tokens.add("" + below(101));
            } else {
                sum(tokens, 0);
            }
        }
        if (chance(2)) {
            tokens.add("if");
            test(tokens, 0);
        }
    }

    private void test(List<String> tokens, int depth) {
        int many = chance(3) ? 2 + below(2) : 1;
        for (int i = 0; i < many; i++) {
            if (i > 0) {
                tokens.add(chance(2) ? "or" : "and");
            }
            while (chance(6)) {
                tokens.add("not");
            }
            if (depth < 9 && chance(depth == 0 ? 4 : 2)) {
                tokens.add("(");
                test(tokens, depth + 1 + (chance(9) ? -2 : 0));
                tokens.add(")");
            } else {
                sum(tokens, depth);
                tokens.add(new String[] {"<", ">", "="}[below(3)]);
                sum(tokens, depth);
            }
        }
    }

    private void sum(List<String> tokens, int depth) {
        int many = chance(2) ? 1 : 1 + below(3);
        for (int i = 0; i < many; i++) {
            if (i > 0) {
                tokens.add(new String[] {"+", "-", "*", "/"}[below(4)]);
            }
            if (depth < 9 && chance(8)) {
                tokens.add("[");
                sum(tokens, depth + 1);
                tokens.add("]");
            } else if (chance(2)) {
                tokens.add(WORDS[below(WORDS.length)]);
            } else {
                tokens.add("" + (chance(3) ? below(1001) : below(8)));
            }
        }
    }

    private boolean ask() throws Exception {
        String name = QUERIES[below(QUERIES.length)];
        switch (name) {
            case "of": return call(name, about(Math.max(1, real.count(3))), about(6));
            case "weight": return call(name, about(places), about(wordings));
            case "may": case "agree": return call(name, aCopy(), aCopy());
            case "cost": return call(name, chance(4) ? -1 : aCopy(), aCopy());
            case "whose": case "sure": case "family": case "joins": return call(name, aCopy());
            case "come": case "world": return call(name, aCopy(), about(3))
                && (!name.equals("world") || call("run", chance(9) ? about(1000001) : below(1000001)))
                && call(name, aCopy(), below(3));
            case "net": case "dates": return call(name, aCopy(), about(4));
            case "times": return call(name, about(8), aHand(), aHand());
            case "written": return call(name, about(8));
            case "towns": return call(name, aHand());
            case "read": return call(name, aCopy(), chance(9) ? about(14) : 1 + below(12));
            case "stops": case "next": return name.equals("next") ? call(name, about(2)) : call(name, aCopy(), about(2));
            case "many": return call(name, about(6), about(6));
            case "censor": return call(name, about(lands), chance(9) ? aText() : below(Math.max(1, real.count(4))), about(6));
            case "late": return call(name, aText(), chance(3) ? -1 : aCopy());
            case "count": return call(name, about(14));
            default: return call(name);
        }
    }
}
