import java.math.BigInteger;
import java.util.ArrayList;
import java.util.Arrays;
import java.util.HashSet;
import java.util.List;
import java.util.Set;

/** The document's promises once more, plainly and slowly, with all of Java's library. */
public final class Model {
    private static final int NOTHING = -1000000;

    private record Stay(int copy, int town, int from, int to) { }

    private record Note(int copy, int place, int wording, int hand, int kind) {
        boolean written() {
            return kind == 0;
        }

        int reading() {
            return place * 100 + wording;
        }
    }

    private static final class State {
        List<int[]> copies = new ArrayList<>();
        List<Stay> stays = new ArrayList<>();
        List<int[]> hands = new ArrayList<>();
        int[][] samples = new int[8][6];
        List<Note> notes = new ArrayList<>();
        int[] terms = {3, 1, 2, 20};
        List<ModelText> texts = new ArrayList<>();
        int used = -1;

        State copy() {
            State s = new State();
            for (int[] c : copies) {
                s.copies.add(c.clone());
            }
            s.stays.addAll(stays);
            for (int[] h : hands) {
                s.hands.add(h.clone());
            }
            for (int i = 0; i < 8; i++) {
                s.samples[i] = samples[i].clone();
            }
            s.notes.addAll(notes);
            s.terms = terms.clone();
            s.texts.addAll(texts);
            s.used = used;
            return s;
        }
    }

    private State now = new State();
    private final State[] images = new State[2];
    private final List<Integer> tape = new ArrayList<>();
    private final int[] refused = new int[7];
    private int status;
    private int trimmed;
    private int fault = -1;
    private List<List<Integer>> world = new ArrayList<>();
    private List<Integer> fromExemplar = new ArrayList<>();
    private long bestCost;
    private int[] first;
    private boolean treeKnown;

    private static boolean in(int n, int least, int most) {
        return n >= least && n <= most;
    }

    private int answer(int answer, boolean refusal) {
        status = refusal ? answer : 0;
        if (refusal) {
            refused[-answer]++;
        }
        treeKnown = false;
        return answer;
    }

    private int no(int by) {
        return answer(by, true);
    }

    private int yes(int answer) {
        return answer(answer, false);
    }

    private boolean isCopy(int copy) {
        return in(copy, 0, now.copies.size() - 1);
    }

    private boolean isHand(int hand) {
        return in(hand, 0, now.hands.size() - 1);
    }

    private boolean isText(int text) {
        return in(text, 0, now.texts.size() - 1);
    }

    public int copy(int land, int lists) {
        if (!in(land, 0, 7) || !in(lists, 0, 63)) {
            return no(-1);
        }
        if (now.copies.size() == 12) {
            return no(-5);
        }
        now.copies.add(new int[] {land, lists, 0});
        return yes(now.copies.size() - 1);
    }

    public int look(int copy, int looked) {
        if (!in(looked, 0, 1)) {
            return no(-1);
        }
        if (!isCopy(copy)) {
            return no(-2);
        }
        int was = now.copies.get(copy)[2];
        now.copies.get(copy)[2] = looked;
        return yes(was);
    }

    public int stay(int copy, int town, int from, int to) {
        if (!in(town, 0, 31) || !in(from, 0, 400) || !in(to, 0, 400) || to < from) {
            return no(-1);
        }
        if (!isCopy(copy)) {
            return no(-2);
        }
        if (now.stays.size() == 40) {
            return no(-5);
        }
        now.stays.add(new Stay(copy, town, from, to));
        return yes(now.stays.size());
    }

    public int hand(int from, int to) {
        if (!in(from, 0, 400) || !in(to, 0, 400) || to < from) {
            return no(-1);
        }
        if (now.hands.size() == 12) {
            return no(-5);
        }
        now.hands.add(new int[] {0, 0, 0, 0, 0, 0, from, to});
        return yes(now.hands.size() - 1);
    }

    public int form(int hand, int form, int many) {
        if (!in(form, 0, 5) || !in(many, 0, 99)) {
            return no(-1);
        }
        if (!isHand(hand)) {
            return no(-2);
        }
        int was = now.hands.get(hand)[form];
        now.hands.get(hand)[form] = many;
        return yes(was);
    }

    public int sample(int sample, int form, int many) {
        if (!in(sample, 0, 7) || !in(form, 0, 5) || !in(many, 0, 99)) {
            return no(-1);
        }
        int was = now.samples[sample][form];
        now.samples[sample][form] = many;
        return yes(was);
    }

    private boolean has(int copy, int place, int wording, int kind) {
        for (Note n : now.notes) {
            if (n.copy == copy && n.place == place && n.kind == kind && n.wording == wording) {
                return true;
            }
        }
        return false;
    }

    public int note(int copy, int place, int wording, int hand, int kind) {
        if (!in(place, 0, 59) || !in(wording, 0, 99) || !in(kind, 0, 3) || kind > 0 && wording != 0) {
            return no(-1);
        }
        if (!isCopy(copy) || hand != -1 && !isHand(hand)) {
            return no(-2);
        }
        if (has(copy, place, wording, kind)) {
            return no(-3);
        }
        if (now.notes.size() == 200) {
            return no(-5);
        }
        now.notes.add(new Note(copy, place, wording, hand, kind));
        return yes(now.notes.size() - 1);
    }

    private int shared(int place, int wording) {
        Set<Integer> having = new HashSet<>();
        for (Note n : now.notes) {
            if (n.written() && n.place == place && n.wording == wording) {
                having.add(n.copy);
            }
        }
        return having.size();
    }

    public int of(int note, int what) {
        if (!in(note, 0, now.notes.size() - 1) || !in(what, 0, 5)) {
            return -2;
        }
        Note n = now.notes.get(note);
        int shared = n.written() ? shared(n.place, n.wording) : 0;
        return new int[] {n.copy, n.place, n.wording, n.hand, n.kind, shared}[what];
    }

    public int terms(int what, int value) {
        if (!in(what, 0, 3) || !in(value, what % 2 == 0 ? 1 : 0, what == 3 ? 1000 : 9)) {
            return no(-1);
        }
        int was = now.terms[what];
        now.terms[what] = value;
        return yes(was);
    }

    public int feed(int a, int b, int c, int d, int e) {
        if (tape.size() + 20 > 400) {
            return -1;
        }
        for (int n : new int[] {a, b, c, d, e}) {
            tape.addAll(List.of(n >>> 24, n >>> 16 & 255, n >>> 8 & 255, n & 255));
        }
        return tape.size();
    }

    public int end(int n) {
        if (n < 0 || n > tape.size()) {
            return -1;
        }
        tape.subList(n, tape.size()).clear();
        return n;
    }

    public int row(int copy) {
        if (!isCopy(copy)) {
            return no(-2);
        }
        if (tape.isEmpty()) {
            return no(-6);
        }
        trimmed = 0;
        int came = 0;
        while (!tape.isEmpty()) {
            List<Integer> three = new ArrayList<>(tape.subList(0, Math.min(3, tape.size())));
            tape.subList(0, three.size()).clear();
            boolean can = three.size() == 3 && three.get(0) < 60 && three.get(1) < 100
                && (three.get(2) == 255 || isHand(three.get(2)));
            if (can && !has(copy, three.get(0), three.get(1), 0) && now.notes.size() < 200) {
                int hand = three.get(2) == 255 ? -1 : three.get(2);
                now.notes.add(new Note(copy, three.get(0), three.get(1), hand, 0));
                came++;
            } else {
                trimmed++;
            }
        }
        return yes(came);
    }

    public int trimmed() {
        return trimmed;
    }

    public int text() {
        List<Integer> bytes = new ArrayList<>(tape);
        tape.clear();
        if (now.texts.size() == 8) {
            return no(-5);
        }
        ModelText text = new ModelText(bytes);
        fault = text.fault();
        if (fault >= 0) {
            return no(-6);
        }
        now.texts.add(text);
        return yes(now.texts.size() - 1);
    }

    public int fault() {
        return fault;
    }

    public int use(int text) {
        if (text != -1 && !isText(text)) {
            return no(-3);
        }
        int was = now.used;
        now.used = text;
        return yes(was);
    }

    // place, chapter, wording, shared, land, hand, kind, lists, looked
    private int told(String head, int without, int... asked) {
        Long told = now.used == -1 ? null : now.texts.get(now.used).told(head, asked);
        return told == null ? without : (int) Math.max(0, Math.min(100, told));
    }

    private int toldOfCopy(String head, int copy, int chapter) {
        int[] c = now.copies.get(copy);
        return told(head, 50, 0, chapter, 0, 0, c[0], 0, 0, c[1], c[2]);
    }

    public int weight(int place, int wording) {
        if (!in(place, 0, 59) || !in(wording, 0, 99)) {
            return -1;
        }
        return told("weight", 10, place, place / 5, wording, shared(place, wording), 0, 0, 0, 0, 0);
    }

    private int weight(int reading) {
        return weight(reading / 100, reading % 100);
    }

    private Set<Integer> readings(int copy) {
        Set<Integer> all = new HashSet<>();
        for (Note n : now.notes) {
            if (n.written() && n.copy == copy) {
                all.add(n.reading());
            }
        }
        return all;
    }

    private Set<Integer> cuts(int copy) {
        Set<Integer> all = new HashSet<>();
        for (Note n : now.notes) {
            if (n.kind == 1 && n.copy == copy) {
                all.add(n.place);
            }
        }
        return all;
    }

    public int may(int exemplar, int copy) {
        if (!isCopy(exemplar) || !isCopy(copy) || exemplar == copy) {
            return -1;
        }
        boolean oneStayed = false;
        boolean otherStayed = false;
        for (Stay s : now.stays) {
            oneStayed |= s.copy == exemplar;
            otherStayed |= s.copy == copy;
            for (Stay t : now.stays) {
                if (s.copy == exemplar && t.copy == copy && s.town == t.town) {
                    for (int year = s.from; year <= s.to; year++) {
                        if (in(year, t.from, t.to)) {
                            return 1;
                        }
                    }
                }
            }
        }
        return oneStayed && otherStayed ? 0 : 1;
    }

    private int cost(Set<Integer> had, Set<Integer> hadCuts, int copy) {
        Set<Integer> own = readings(copy);
        Set<Integer> ownCuts = cuts(copy);
        int cost = 0;
        for (int r : own) {
            if (!had.contains(r) && !hadCuts.contains(r / 100)) {
                cost += now.terms[0] * weight(r);
            }
        }
        for (int r : had) {
            if (!own.contains(r) && !ownCuts.contains(r / 100)) {
                cost += now.terms[1] * weight(r);
            }
        }
        return cost;
    }

    public int cost(int exemplar, int copy) {
        if (!isCopy(copy) || exemplar != -1 && !isCopy(exemplar) || exemplar == copy) {
            return -1;
        }
        if (exemplar >= 0) {
            return cost(readings(exemplar), cuts(exemplar), copy);
        }
        int sum = 0;
        for (int r : readings(copy)) {
            sum += weight(r);
        }
        return sum * now.terms[2];
    }

    /** The best cost and the first row for it by sets of copies, the latest come of each set being a leaf. */
    private long[] best(int[][] costs) {
        int n = now.copies.size();
        long[][] best = new long[1 << n][];
        best[0] = new long[] {0, 0};
        for (int set = 1; set < 1 << n; set++) {
            for (int c = 0; c < n; c++) {
                long[] rest = (set >> c & 1) == 1 ? best[set & ~(1 << c)] : null;
                if (rest == null) {
                    continue;
                }
                long power = 1;
                for (int i = c; i < 11; i++) {
                    power *= 13;
                }
                for (int e = -1; e < n; e++) {
                    if (costs[e + 1][c] >= 0 && (e < 0 || e != c && (set >> e & 1) == 1)) {
                        long[] with = {rest[0] + costs[e + 1][c], rest[1] + (e + 1) * power};
                        if (best[set] == null || Arrays.compare(with, best[set]) < 0) {
                            best[set] = with;
                        }
                    }
                }
            }
        }
        return best[(1 << n) - 1];
    }

    private int[][] costs() {
        int n = now.copies.size();
        int[][] costs = new int[n + 1][n];
        for (int c = 0; c < n; c++) {
            for (int e = -1; e < n; e++) {
                costs[e + 1][c] = e == -1 || e != c && may(e, c) == 1 ? cost(e, c) : -1;
            }
        }
        return costs;
    }

    private void findTree() {
        if (!treeKnown) {
            long[] best = best(costs());
            bestCost = best[0];
            long row = best[1];
            first = new int[12];
            for (int c = 11; c >= 0; c--) {
                first[c] = (int) (row % 13) - 1;
                row /= 13;
            }
            treeKnown = true;
        }
    }

    public int tree() {
        findTree();
        return (int) bestCost;
    }

    public int whose(int copy) {
        if (!isCopy(copy)) {
            return -1;
        }
        findTree();
        return first[copy] == -1 ? 100 : first[copy];
    }

    public int sure(int copy) {
        if (!isCopy(copy)) {
            return -1;
        }
        findTree();
        int[][] costs = costs();
        costs[first[copy] + 1][copy] = -1;
        long[] best = best(costs);
        return best == null || best[0] > bestCost ? 1 : 0;
    }

    private boolean comes(int copy, int of) {
        findTree();
        return first[copy] != -1 && (first[copy] == of || comes(first[copy], of));
    }

    public int come(int copy, int what) {
        if (!isCopy(copy) || !in(what, 0, 2)) {
            return -1;
        }
        findTree();
        int many = 0;
        if (what == 2) {
            for (int c = copy; c != -1; c = first[c]) {
                many++;
            }
            return many;
        }
        for (int c = 0; c < now.copies.size(); c++) {
            many += what == 0 && comes(c, copy) || what == 1 && first[c] == copy ? 1 : 0;
        }
        return many;
    }

    public int net(int copy, int what) {
        if (!isCopy(copy) || !in(what, 0, 3)) {
            return NOTHING;
        }
        int[] best = null;
        int single = cost(-1, copy);
        for (int i = 0; i < now.copies.size(); i++) {
            if (i != copy && may(i, copy) == 1) {
                single = Math.min(single, cost(i, copy));
                for (int j = i + 1; j < now.copies.size(); j++) {
                    if (j != copy && may(j, copy) == 1) {
                        Set<Integer> had = readings(i);
                        had.addAll(readings(j));
                        Set<Integer> cuts = cuts(i);
                        cuts.retainAll(cuts(j));
                        int cost = cost(had, cuts, copy);
                        if (best == null || cost < best[2]) {
                            best = new int[] {i, j, cost, 0};
                        }
                    }
                }
            }
        }
        if (best == null) {
            return NOTHING;
        }
        best[3] = single - best[2];
        return best[what];
    }

    public int agree(int one, int other) {
        if (!isCopy(one) || !isCopy(other) || one == other) {
            return -1;
        }
        Set<Integer> both = readings(one);
        both.retainAll(readings(other));
        int sum = 0;
        for (int r : both) {
            sum += weight(r);
        }
        return sum;
    }

    /** The lowest copy of each one's family among some copies; -1 for the others. */
    private int[] families(Set<Integer> among) {
        int[] lowest = new int[12];
        Arrays.fill(lowest, -1);
        for (int c : among) {
            lowest[c] = c;
        }
        for (int round = 0; round < 12; round++) {
            for (int a : among) {
                for (int b : among) {
                    if (a != b && agree(a, b) >= now.terms[3]) {
                        lowest[a] = Math.min(lowest[a], lowest[b]);
                    }
                }
            }
        }
        return lowest;
    }

    private Set<Integer> all() {
        Set<Integer> all = new HashSet<>();
        for (int c = 0; c < now.copies.size(); c++) {
            all.add(c);
        }
        return all;
    }

    private static int distinct(int[] lowest) {
        Set<Integer> all = new HashSet<>();
        for (int l : lowest) {
            if (l >= 0) {
                all.add(l);
            }
        }
        return all.size();
    }

    public int families() {
        return distinct(families(all()));
    }

    public int family(int copy) {
        return isCopy(copy) ? families(all())[copy] : -1;
    }

    public int joins(int copy) {
        if (!isCopy(copy)) {
            return NOTHING;
        }
        Set<Integer> others = all();
        others.remove(copy);
        int[] with = families(all());
        int[] without = families(others);
        with[copy] = -1;
        return distinct(without) - distinct(with);
    }

    private BigInteger[] likely(int sample, int hand) {
        int[] h = now.hands.get(hand);
        int all = 6;
        for (int f = 0; f < 6; f++) {
            all += h[f];
        }
        BigInteger above = BigInteger.ONE;
        BigInteger below = BigInteger.ONE;
        for (int f = 0; f < 6; f++) {
            above = above.multiply(BigInteger.valueOf(h[f] + 1).pow(now.samples[sample][f]));
            below = below.multiply(BigInteger.valueOf(all).pow(now.samples[sample][f]));
        }
        return new BigInteger[] {above, below};
    }

    public int times(int sample, int hand, int other) {
        if (!in(sample, 0, 7) || !isHand(hand) || !isHand(other)) {
            return -1;
        }
        BigInteger[] one = likely(sample, hand);
        BigInteger[] two = likely(sample, other);
        BigInteger times = one[0].multiply(two[1]).divide(one[1].multiply(two[0]));
        return times.min(BigInteger.valueOf(1000000)).intValue();
    }

    public int written(int sample) {
        if (!in(sample, 0, 7) || now.hands.isEmpty()) {
            return -1;
        }
        int best = 0;
        for (int h = 1; h < now.hands.size(); h++) {
            BigInteger[] one = likely(sample, h);
            BigInteger[] two = likely(sample, best);
            best = one[0].multiply(two[1]).compareTo(two[0].multiply(one[1])) > 0 ? h : best;
        }
        return best;
    }

    public int towns(int hand) {
        if (!isHand(hand)) {
            return -1;
        }
        Set<Integer> towns = new HashSet<>();
        int[] h = now.hands.get(hand);
        for (Note n : now.notes) {
            for (Stay s : now.stays) {
                if (n.hand == hand && s.copy == n.copy && Math.max(s.from, h[6]) <= Math.min(s.to, h[7])) {
                    towns.add(s.town);
                }
            }
        }
        return towns.size();
    }

    private int[] own(int copy) {
        int from = 0;
        int to = 400;
        for (Note n : now.notes) {
            if (n.copy == copy && n.hand >= 0) {
                from = Math.max(from, now.hands.get(n.hand)[6]);
                to = Math.min(to, now.hands.get(n.hand)[7]);
            }
        }
        int earliest = 1000;
        int latest = -1;
        for (Stay s : now.stays) {
            if (s.copy == copy) {
                earliest = Math.min(earliest, s.from);
                latest = Math.max(latest, s.to);
            }
        }
        return latest < 0 ? new int[] {from, to} : new int[] {Math.max(from, earliest), Math.min(to, latest)};
    }

    private int fromByTree(int copy) {
        int own = own(copy)[0];
        return first[copy] == -1 ? own : Math.max(own, fromByTree(first[copy]));
    }

    private int toByTree(int copy) {
        int to = own(copy)[1];
        for (int c = 0; c < now.copies.size(); c++) {
            if (first[c] == copy) {
                to = Math.min(to, toByTree(c));
            }
        }
        return to;
    }

    public int dates(int copy, int what) {
        if (!isCopy(copy) || !in(what, 0, 3)) {
            return -1;
        }
        findTree();
        return what < 2 ? own(copy)[what] : what == 2 ? fromByTree(copy) : toByTree(copy);
    }

    private Set<Integer> chapters(int copy) {
        Set<Integer> all = new HashSet<>();
        for (Note n : now.notes) {
            if (n.copy == copy && n.written()) {
                all.add(n.place / 5);
            }
        }
        return all;
    }

    /** The chances, from a chapter on that is read: of what is written, and of that with so many read. */
    private BigInteger[] chances(int copy, int chapter, int chapters) {
        Set<Integer> written = chapters(copy);
        int notes = toldOfCopy("notes", copy, chapter);
        BigInteger here = BigInteger.valueOf(written.contains(chapter) ? notes : 100 - notes);
        boolean enough = chapter + 1 >= chapters;
        if (chapter == 11) {
            return new BigInteger[] {here, enough ? here : BigInteger.ZERO};
        }
        boolean mayStop = true;
        for (int w : written) {
            mayStop &= w <= chapter;
        }
        int reads = toldOfCopy("reads", copy, chapter + 1);
        BigInteger[] on = chances(copy, chapter + 1, chapters);
        BigInteger stop = BigInteger.valueOf(mayStop ? 100 - reads : 0)
            .multiply(BigInteger.valueOf(100).pow(2 * (11 - chapter) - 1));
        BigInteger read = BigInteger.valueOf(reads);
        return new BigInteger[] {
            here.multiply(stop.add(read.multiply(on[0]))),
            here.multiply((enough ? stop : BigInteger.ZERO).add(read.multiply(on[1]))),
        };
    }

    public int read(int copy, int chapters) {
        if (!isCopy(copy) || !in(chapters, 1, 12)) {
            return -1;
        }
        BigInteger[] chances = chances(copy, 0, chapters);
        return chances[0].signum() == 0 ? -1
            : chances[1].multiply(BigInteger.valueOf(1000000)).divide(chances[0]).intValue();
    }

    public int stops(int copy, int what) {
        if (!isCopy(copy) || !in(what, 0, 1)) {
            return -1;
        }
        Set<Integer> chapters = chapters(copy);
        return what == 0 ? chapters.size() : chapters.stream().mapToInt(c -> c).max().orElse(-1);
    }

    public int many(int list, int other) {
        if (!in(list, 0, 5) || !in(other, 0, 5) || list == other) {
            return -1;
        }
        int one = 0;
        int two = 0;
        int both = 0;
        for (int[] c : now.copies) {
            boolean inOne = (c[1] & 1 << list) != 0;
            boolean inTwo = (c[1] & 1 << other) != 0;
            one += inOne ? 1 : 0;
            two += inTwo ? 1 : 0;
            both += inOne && inTwo ? 1 : 0;
        }
        return both == 0 ? -1 : one * two / both;
    }

    public int chao() {
        int[] by = new int[7];
        for (int[] c : now.copies) {
            by[Integer.bitCount(c[1])]++;
        }
        int seen = now.copies.size() - by[0];
        return by[2] > 0 ? seen + by[1] * by[1] / (2 * by[2]) : seen + by[1] * (by[1] - 1) / 2;
    }

    public int censor(int land, int text, int what) {
        if (!in(land, 0, 7) || !isText(text) || !in(what, 0, 5)) {
            return -1;
        }
        int[] told = new int[6];
        for (int c = 0; c < now.copies.size(); c++) {
            if (now.copies.get(c)[0] != land || now.copies.get(c)[2] == 0) {
                continue;
            }
            told[0]++;
            int places = 0;
            int obeyed = 0;
            for (int p = 0; p < 60; p++) {
                if (now.texts.get(text).holds("struck", p, p / 5, 0, 0, 0, 0, 0, 0, 0)) {
                    places++;
                    told[4] += has(c, p, 0, 2) ? 1 : 0;
                    told[5] += has(c, p, 0, 3) ? 1 : 0;
                    obeyed += has(c, p, 0, 2) || has(c, p, 0, 3) ? 1 : 0;
                }
            }
            told[obeyed == places ? 1 : obeyed > 0 ? 2 : 3]++;
        }
        return told[what];
    }

    public int late(int text, int copy) {
        if (!isText(text) || copy != -1 && !isCopy(copy)) {
            return -1;
        }
        int many = 0;
        for (Note n : now.notes) {
            int[] c = now.copies.get(n.copy);
            int shared = n.written() ? shared(n.place, n.wording) : 0;
            if ((copy == -1 || copy == n.copy) && now.texts.get(text).holds("late", n.place, n.place / 5, n.wording,
                    shared, c[0], n.hand, n.kind, c[1], c[2])) {
                many++;
            }
        }
        return many;
    }

    public int next(int what) {
        int[] best = {-1, -1};
        for (int c = 0; c < now.copies.size(); c++) {
            if (now.copies.get(c)[2] == 0) {
                int many = 0;
                for (int o = 0; o < now.copies.size(); o++) {
                    many += now.copies.get(o)[2] == 1 && may(c, o) == 1 ? 1 : 0;
                }
                if (many > best[1]) {
                    best = new int[] {c, many};
                }
            }
        }
        return in(what, 0, 1) ? best[what] : -1;
    }

    public int run(int seed) {
        if (!in(seed, 0, 1000000)) {
            return no(-1);
        }
        findTree();
        int n = now.copies.size();
        long[] s = {seed};
        world = new ArrayList<>();
        fromExemplar = new ArrayList<>();
        for (int c = 0; c < n; c++) {
            world.add(null);
            fromExemplar.add(0);
        }
        int newest = 0;
        int all = 0;
        for (int c = 0; c < n; c++) {
            if (world.get(c) != null || first[c] >= 0 && world.get(first[c]) == null) {
                continue;
            }
            List<Integer> notes = new ArrayList<>();
            if (first[c] >= 0) {
                for (int note : world.get(first[c])) {
                    if (draw(s) < toldOfCopy("copies", c, 0)) {
                        notes.add(note);
                    }
                }
            }
            fromExemplar.set(c, notes.size());
            for (int chapter = 0; chapter < 12; chapter++) {
                if (draw(s) < toldOfCopy("adds", c, chapter)) {
                    notes.add(newest++);
                }
            }
            world.set(c, notes);
            all += notes.size();
            c = -1;
        }
        return yes(all);
    }

    private static int draw(long[] s) {
        s[0] = (s[0] * 1103 + 12345) % 1000003;
        return (int) (s[0] % 100);
    }

    public int world(int copy, int what) {
        if (!in(copy, 0, world.size() - 1) || !in(what, 0, 2)) {
            return -1;
        }
        List<Integer> notes = world.get(copy);
        if (what < 2) {
            return what == 0 ? notes.size() : fromExemplar.get(copy);
        }
        int many = 0;
        for (List<Integer> other : world) {
            many += !notes.isEmpty() && other.contains(notes.get(0)) ? 1 : 0;
        }
        return many;
    }

    public int image(int k) {
        if (!in(k, 0, 1)) {
            return no(-1);
        }
        images[k] = now.copy();
        return yes(0);
    }

    public int back(int k) {
        if (!in(k, 0, 1)) {
            return no(-1);
        }
        if (images[k] == null) {
            return no(-2);
        }
        now = images[k].copy();
        return yes(0);
    }

    public int count(int what) {
        int looked = 0;
        for (int[] c : now.copies) {
            looked += c[2];
        }
        int written = 0;
        for (Note n : now.notes) {
            written += n.written() ? 1 : 0;
        }
        int[] all = {now.copies.size(), now.stays.size(), now.hands.size(), now.notes.size(), now.texts.size(),
            looked, written, tape.size(), refused[1], refused[2], refused[3], refused[5], refused[6], now.used};
        return in(what, 0, 13) ? all[what] : -1;
    }

    public int status() {
        return status;
    }
}
