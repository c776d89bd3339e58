import java.util.ArrayList;
import java.util.List;

/** The edges of promises 41 to 44: worlds drawn, the latest one, images and going back. */
public final class WorldEdgeTest {
    private static final int MIN = Edge.MIN;
    private static final int MAX = Edge.MAX;
    private static final int[] SEEDS = {0, 1, 2, 99, 100, 12345, 500000, 906, 999999, 1000000};
    private static final Due due = new Due();
    private static final Edge standing = new Edge(due, Edge::standing);
    private static final Edge emptyOne = new Edge(due, SkyMargins::new);

    public static void main(String[] args) {
        runNumbers();
        runWithoutCopies();
        runRefusedKeepsTheLatest();
        drawsModulo();
        drawsBelow();
        drawsNearest();
        drawsFiftyWithout();
        drawsAskedOf();
        drawsInOrder();
        drawsOfTwelve();
        worldNumbers();
        worldWithoutNotes();
        worldOfTheLatest();
        imageNumbers();
        backNumbers();
        imageKeepsEach();
        imageOfLess();
        imageOfMore();
        imagesStay();
        imageKeepsNot();
        due.close();
    }

    /** run: SEED 0 .. 1,000,000; -1. */
    private static void runNumbers() {
        standing.refused("run", -1, (x, n) -> x.run(n), MIN, -1, 1000001, 1000002, 1000003, MAX);
        emptyOne.refused("run without copies", -1, (x, n) -> x.run(n), -1, 1000001);
        Edge quiet = new Edge(due, () -> quiet(Edge.standing()));
        quiet.taken("the first seed", 0, x -> x.run(0));
        quiet.taken("the last seed", 0, x -> x.run(1000000));
    }

    private static SkyMargins quiet(SkyMargins x) {
        x.end(0);
        Due.use(x, "adds 0");
        return x;
    }

    private static void runWithoutCopies() {
        emptyOne.taken("run without copies", 0, x -> x.run(7));
        SkyMargins x = new SkyMargins();
        x.run(7);
        due.is("none is in it", -1, x.world(0, 0));
    }

    private static void runRefusedKeepsTheLatest() {
        SkyMargins x = Due.withCopies(2);
        x.run(11);
        int[] was = new int[6];
        for (int i = 0; i < 6; i++) {
            was[i] = x.world(i % 2, i / 2);
        }
        x.run(-1);
        x.run(1000001);
        for (int i = 0; i < 6; i++) {
            due.is("the latest stays", was[i], x.world(i % 2, i / 2));
        }
    }

    /** A world told once more: the chances are by copy and chapter. */
    private static final class Drawn {
        final List<List<Integer>> notes = new ArrayList<>();
        final List<Integer> copied = new ArrayList<>();
        private long s;
        private int newest;
        private int all;

        Drawn(int seed, int[] exemplars, int[] copies, int[][] adds) {
            s = seed;
            int many = exemplars.length;
            for (int copy = 0; copy < many; copy++) {
                notes.add(null);
                copied.add(0);
            }
            for (int gone = 0; gone < many; gone++) {
                int next = 0;
                while (notes.get(next) != null || exemplars[next] < 100 && notes.get(exemplars[next]) == null) {
                    next++;
                }
                draw(next, exemplars[next], copies[next], adds[next]);
            }
        }

        private void draw(int copy, int exemplar, int copies, int[] adds) {
            List<Integer> own = new ArrayList<>();
            if (exemplar < 100) {
                for (int note : notes.get(exemplar)) {
                    if (hundred() < copies) {
                        own.add(note);
                    }
                }
            }
            copied.set(copy, own.size());
            for (int chapter = 0; chapter < 12; chapter++) {
                if (hundred() < adds[chapter]) {
                    own.add(newest);
                    newest++;
                }
            }
            notes.set(copy, own);
            all += own.size();
        }

        private int hundred() {
            s = (s * 1103 + 12345) % 1000003;
            return (int) (s % 100);
        }

        int withFirstOf(int copy) {
            int many = 0;
            for (List<Integer> other : notes) {
                many += !notes.get(copy).isEmpty() && other.contains(notes.get(copy).get(0)) ? 1 : 0;
            }
            return many;
        }
    }

    /** Runs with a seed, and tells whether the world is as drawn once more. */
    private static void world(String what, SkyMargins x, int seed, int[] copies, int[][] adds) {
        int many = x.count(0);
        int[] exemplars = new int[many];
        for (int copy = 0; copy < many; copy++) {
            exemplars[copy] = x.whose(copy);
        }
        Drawn drawn = new Drawn(seed, exemplars, copies, adds);
        due.is(what + " " + seed, drawn.all, x.run(seed));
        for (int copy = 0; copy < many; copy++) {
            due.is(what + " " + seed + ", notes of " + copy, drawn.notes.get(copy).size(), x.world(copy, 0));
            due.is(what + " " + seed + ", copied by " + copy, drawn.copied.get(copy), x.world(copy, 1));
            due.is(what + " " + seed + ", first of " + copy, drawn.withFirstOf(copy), x.world(copy, 2));
        }
    }

    private static int[][] alike(int many, int chance) {
        int[][] all = new int[many][12];
        for (int[] row : all) {
            java.util.Arrays.fill(row, chance);
        }
        return all;
    }

    private static int[] each(int many, int chance) {
        int[] all = new int[many];
        java.util.Arrays.fill(all, chance);
        return all;
    }

    /** A first copy and some that come of it and of one another: 0; 1 and 2 of 0; 3 of 2. */
    private static SkyMargins family() {
        SkyMargins x = Due.withCopies(4);
        for (int copy = 0; copy < 4; copy++) {
            Due.write(x, copy, 0, 0);
            Due.write(x, copy, copy < 2 ? 1 : 2, 0);
        }
        x.stay(3, 0, 5, 5);
        x.stay(2, 0, 5, 5);
        x.stay(1, 1, 5, 5);
        x.terms(2, 9);
        return x;
    }

    /** DRAWS: s becomes (s times 1103 and 12345) modulo 1,000,003, at first s is the SEED (0 .. 1,000,000). */
    private static void drawsModulo() {
        // Seeds behind which the first s is 0, 99, 100, 1,000,002, 1,000,000.
        int[] firsts = {0, 99, 100, 1000002, 1000000};
        SkyMargins x = family();
        int[] whose = {100, 0, 0, 2};
        for (int copy = 0; copy < 4; copy++) {
            due.is("whose " + copy, whose[copy], x.whose(copy));
        }
        for (int first : firsts) {
            int found = 0;
            for (int seed = 0; seed <= 1000000; seed++) {
                if ((seed * 1103L + 12345) % 1000003 == first) {
                    found++;
                    world("first s " + first, x, seed, each(4, 50), alike(4, 50));
                }
            }
            due.is("seeds for " + first, 1, found);
        }
        for (int seed : SEEDS) {
            world("seed", x, seed, each(4, 50), alike(4, 50));
        }
    }

    /** A DRAW of 100: below. */
    private static void drawsBelow() {
        for (int seed : SEEDS) {
            int draw = (int) ((seed * 1103L + 12345) % 1000003 % 100);
            for (int chance = Math.max(0, draw - 1); chance <= Math.min(100, draw + 2); chance++) {
                SkyMargins x = Due.withCopies(1);
                Due.use(x, "adds 0;adds " + chance + " if chapter=0");
                due.is("draw " + draw + " below " + chance, draw < chance ? 1 : 0, x.run(seed));
                SkyMargins y = family();
                Due.use(y, "copies " + chance + ";adds 0;adds 100 if chapter=11");
                int[][] adds = alike(4, 0);
                for (int[] row : adds) {
                    row[11] = 100;
                }
                world("copies " + chance, y, seed, each(4, chance), adds);
            }
        }
        int[] chances = {0, 1, 2, 50, 98, 99, 100};
        for (int copies : chances) {
            for (int adds : chances) {
                SkyMargins x = family();
                Due.use(x, "copies " + copies + ";adds " + adds);
                world("copies " + copies + " adds " + adds, x, 777, each(4, copies), alike(4, adds));
                world("copies " + copies + " adds " + adds, x, 778, each(4, copies), alike(4, adds));
            }
        }
    }

    /** 0 .. 100 (else the nearest). */
    private static void drawsNearest() {
        String[] least = {"0", "0-1", "0-1000*1000*1000"};
        String[] most = {"100", "101", "1000*1000*1000"};
        for (int i = 0; i < 3; i++) {
            for (int seed : SEEDS) {
                SkyMargins x = family();
                Due.use(x, "copies " + most[i] + ";adds " + most[i]);
                due.is("all " + most[i], 12 + 24 + 24 + 36, x.run(seed));
                Due.use(x, "copies " + least[i] + ";adds " + most[i]);
                due.is("none from the exemplar " + least[i], 48, x.run(seed));
                due.is("of the last, too", 0, x.world(3, 1));
                Due.use(x, "copies " + most[i] + ";adds " + least[i]);
                due.is("none " + least[i], 0, x.run(seed));
            }
        }
    }

    /** 50 without. */
    private static void drawsFiftyWithout() {
        String[] texts = {"late", "copies 50;adds 50", "copies 1/0;adds 1/0", "copies 9 if 1=2;adds 9 if 1=2", "reads 1;notes 2"};
        for (String text : texts) {
            SkyMargins x = family();
            Due.use(x, text);
            for (int seed = 0; seed < 5; seed++) {
                world(text, x, seed, each(4, 50), alike(4, 50));
            }
        }
    }

    /** "copies" asked of the COPY in CHAPTER 0, "adds" of it in that CHAPTER; what it is not asked of is 0. */
    private static void drawsAskedOf() {
        SkyMargins x = new SkyMargins();
        x.copy(1, 0);
        x.copy(7, 63);
        x.look(1, 1);
        x.hand(0, 400);
        x.hand(0, 400);
        x.note(0, 14, 9, 1, 0);
        x.note(1, 14, 9, 1, 0);
        Due.use(x, "copies 0;copies 100 if chapter=0 and land=7 and lists=63 and looked=1 and place=0 and wording=0 and shared=0 "
            + "and hand=0 and kind=0;adds 100");
        due.is("1 of 0", 0, x.whose(1));
        due.is("all are copied", 36, x.run(3));
        x.use(SkyMargins.NONE);
        Due.use(x, "adds 0;copies 100;adds 9*chapter if land=7 and lists=63 and looked=1;adds 8*chapter if land=1 and lists=0 "
            + "and looked=0 and place=0 and wording=0 and shared=0 and hand=0 and kind=0");
        int[][] adds = new int[2][12];
        for (int chapter = 0; chapter < 12; chapter++) {
            adds[0][chapter] = 8 * chapter;
            adds[1][chapter] = 9 * chapter;
        }
        for (int seed : SEEDS) {
            world("asked of each chapter", x, seed, each(2, 100), adds);
        }
        Due.use(x, "copies 0;copies 30 if land=1;copies 60 if land=7");
        for (int seed : SEEDS) {
            world("asked of the copy, not of its exemplar", x, seed, new int[] {30, 60}, alike(2, 50));
        }
    }

    /** The COPIES, those first whose exemplars went ahead, the lowest of these first. */
    private static void drawsInOrder() {
        // 0 of 3, 1 of nobody, 2 of 0, 3 of nobody, 4 of 1: so 1, 3, 0, 2, 4.
        SkyMargins x = Due.withCopies(5);
        x.terms(1, 9);
        int[][] has = {{0, 1}, {10}, {0, 1, 2}, {0}, {10, 11}};
        for (int copy = 0; copy < 5; copy++) {
            for (int place : has[copy]) {
                Due.write(x, copy, place, 0);
            }
        }
        int[] whose = {3, 100, 0, 100, 1};
        for (int copy = 0; copy < 5; copy++) {
            due.is("whose " + copy, whose[copy], x.whose(copy));
        }
        for (int seed : SEEDS) {
            world("in order", x, seed, each(5, 50), alike(5, 50));
        }
        // A chain from the last to the first: each waits for the one behind it.
        SkyMargins y = Due.withCopies(12);
        y.terms(1, 9);
        for (int copy = 0; copy < 12; copy++) {
            for (int place = 0; place < 12 - copy; place++) {
                Due.write(y, copy, place, 0);
            }
        }
        for (int copy = 0; copy < 12; copy++) {
            due.is("chain " + copy, copy == 11 ? 100 : copy + 1, y.whose(copy));
        }
        for (int seed = 0; seed < 5; seed++) {
            world("chain", y, seed, each(12, 50), alike(12, 50));
        }
    }

    /** As many notes as can be: twelve copies in a row, each with all of the one ahead and twelve more. */
    private static void drawsOfTwelve() {
        SkyMargins x = Due.withCopies(12);
        for (int copy = 0; copy < 12; copy++) {
            Due.write(x, copy, 0, 0);
            x.stay(copy, 0, copy, copy + 1);
        }
        Due.use(x, "copies 100;adds 100");
        world("all", x, 5, each(12, 100), alike(12, 100));
        due.is("all of them", 12 * 13 / 2 * 12, x.run(5));
        due.is("the last's", 144, x.world(11, 0));
        due.is("the last's from its exemplar", 132, x.world(11, 1));
        due.is("the first one, in all", 12, x.world(11, 2));
        Due.use(x, "copies 99;adds 99");
        world("most", x, 6, each(12, 99), alike(12, 99));
    }

    /** world: NONE. */
    private static void worldNumbers() {
        for (int what = 0; what < 3; what++) {
            int w = what;
            standing.told("world, of " + w, -1, (x, n) -> x.world(n, w), MIN, -1, 4, 11, 12, MAX);
            emptyOne.told("world ahead of any, " + w, -1, (x, n) -> x.world(n, w), -1, 0);
            Edge unrun = new Edge(due, () -> Due.withCopies(3));
            unrun.told("world without a run, " + w, -1, (x, n) -> x.world(n, w), 0, 2, 3);
        }
        standing.told("world what", -1, (x, n) -> x.world(0, n), MIN, -1, 3, MAX);
        Edge twelve = new Edge(due, () -> ran(Due.withCopies(12)));
        twelve.told("world of the twelfth", 1, x -> x.world(11, 0) >= 0 ? 1 : 0);
        twelve.told("world of a thirteenth", -1, x -> x.world(12, 0));
    }

    private static SkyMargins ran(SkyMargins x) {
        x.run(4);
        return x;
    }

    /** 0 without NOTES. */
    private static void worldWithoutNotes() {
        SkyMargins x = family();
        Due.use(x, "adds 0");
        due.is("none", 0, x.run(1));
        for (int copy = 0; copy < 4; copy++) {
            for (int what = 0; what < 3; what++) {
                due.is("without notes", 0, x.world(copy, what));
            }
        }
        // One has notes, the one that comes of it none.
        Due.use(x, "adds 0;adds 100 if land=0 and lists=0;copies 0;adds 0 if looked=1");
        x.look(0, 1);
        due.is("all but the first", 36, x.run(1));
        due.is("no first one", 0, x.world(0, 2));
        due.is("its own first one alone", 1, x.world(1, 2));
        due.is("none from its exemplar", 0, x.world(1, 1));
        // From its exemplar alone.
        Due.use(x, "adds 0;adds 100 if looked=1 and chapter=7;copies 100");
        due.is("one in each", 4, x.run(1));
        for (int copy = 0; copy < 4; copy++) {
            due.is("one note", 1, x.world(copy, 0));
            due.is("from the exemplar", copy == 0 ? 0 : 1, x.world(copy, 1));
            due.is("all have it", 4, x.world(copy, 2));
        }
    }

    /** The latest WORLD: of the copies that were there. */
    private static void worldOfTheLatest() {
        SkyMargins x = Due.withCopies(2);
        Due.use(x, "adds 100;copies 100");
        x.run(1);
        x.copy(0, 0);
        due.is("a copy that came later", -1, x.world(2, 0));
        due.is("one that was there", 12, x.world(1, 0));
        Due.use(x, "adds 0");
        due.is("another text alone", 12, x.world(1, 0));
        x.run(1);
        due.is("a newer one", 0, x.world(1, 0));
        due.is("with the later copy", 0, x.world(2, 0));
    }

    /** image: 0; -1. */
    private static void imageNumbers() {
        standing.refused("image", -1, (x, n) -> x.image(n), MIN, -1, 2, MAX);
        standing.taken("image 0", 0, x -> x.image(0));
        standing.taken("image 1", 0, x -> x.image(1));
        emptyOne.taken("image of nothing", 0, x -> x.image(1));
    }

    /** back: 0. -1; -2 it was not kept. */
    private static void backNumbers() {
        standing.refused("back to", -1, (x, n) -> x.back(n), MIN, -1, 2, MAX);
        standing.taken("back to 0", 0, x -> x.back(0));
        SkyMargins x = Edge.standing();
        due.is("1 was not kept", -2, x.back(1));
        due.is("status", -2, x.status());
        due.is("counted", 1, x.count(9));
        due.is("copies", 4, x.count(0));
        due.is("the tape", 4, x.count(7));
        due.is("0 was kept", 0, x.back(0));
        due.is("status then", 0, x.status());
        for (int k = 0; k < 2; k++) {
            SkyMargins y = new SkyMargins();
            due.is("none was kept", -2, y.back(k));
            due.is("image", 0, y.image(k));
            due.is("kept", 0, y.back(k));
            due.is("the other was not", -2, y.back(1 - k));
            due.is("far off", -1, y.back(MIN));
            due.is("far off above", -1, y.back(MAX));
        }
    }

    private interface Change {
        void on(SkyMargins x);
    }

    /** Keeps an image, changes one thing alone, and goes back: the call tells as at first. */
    private static void keeps(String what, Change ahead, Change change, Edge.Call asked, int want, int changed) {
        for (int k = 0; k < 2; k++) {
            SkyMargins x = Due.withCopies(2);
            x.hand(100, 200);
            ahead.on(x);
            x.image(k);
            change.on(x);
            int other = asked.on(x);
            due.is(what + " changed", changed, other);
            x.run(-1);
            due.is("back", 0, x.back(k));
            due.is("status behind back", 0, x.status());
            due.is(what + " is back", want, asked.on(x));
        }
    }

    /** IMAGES keep all but the TAPE, FAULT, TRIMMED, the latest WORLD. */
    private static void imageKeepsEach() {
        Change nothing = x -> { };
        keeps("copies", nothing, x -> x.copy(0, 0), x -> x.count(0), 2, 3);
        keeps("looks", x -> x.look(1, 1), x -> x.look(1, 0), x -> x.count(5), 1, 0);
        keeps("stays", x -> x.stay(0, 1, 2, 3), x -> x.stay(1, 4, 5, 6), x -> x.count(1), 1, 2);
        keeps("where they stayed", x -> x.stay(0, 1, 2, 3), x -> x.stay(1, 4, 5, 6), x -> x.may(0, 1), 1, 0);
        keeps("hands", nothing, x -> x.hand(0, 0), x -> x.count(2), 1, 2);
        keeps("forms", x -> x.form(0, 5, 7), x -> x.form(0, 5, 8), x -> x.form(0, 5, 9), 7, 8);
        keeps("samples", x -> x.sample(7, 5, 7), x -> x.sample(7, 5, 8), x -> x.sample(7, 5, 9), 7, 8);
        keeps("notes", x -> Due.write(x, 0, 1, 1), x -> Due.write(x, 0, 2, 2), x -> x.count(3), 1, 2);
        keeps("shared ones", x -> Due.write(x, 0, 1, 1), x -> Due.write(x, 1, 1, 1), x -> x.of(0, 5), 1, 2);
        keeps("cuts", x -> Due.write(x, 0, 1, 1), x -> x.note(1, 1, 0, -1, 1), x -> x.cost(0, 1), 10, 0);
        for (int what = 0; what < 4; what++) {
            int w = what;
            keeps("term " + w, x -> x.terms(w, 7), x -> x.terms(w, 8), x -> x.terms(w, 9), 7, 8);
        }
        keeps("the tree", x -> Due.write(x, 0, 1, 1), x -> Due.write(x, 1, 1, 2), x -> x.tree(), 20, 40);
        keeps("the first tree", x -> Due.write(x, 0, 1, 1), x -> Due.write(x, 1, 1, 1), x -> x.whose(1), 100, 0);
        keeps("sure ones", x -> Due.write(x, 0, 1, 1), x -> Due.write(x, 1, 1, 1), x -> x.sure(0), 1, 0);
        keeps("families", nothing, x -> x.terms(3, 0), x -> x.families(), 2, 1);
        keeps("dates", x -> x.note(0, 1, 1, 0, 0), x -> x.stay(0, 0, 150, 160), x -> x.dates(0, 0), 100, 150);
        keeps("texts", x -> Due.text(x, "late"), x -> Due.text(x, "late"), x -> x.count(4), 1, 2);
        keeps("the text in use", x -> Due.use(x, "weight 40"), x -> x.use(-1), x -> x.weight(0, 0), 40, 10);
        keeps("which is in use", x -> Due.use(x, "weight 40"), x -> Due.use(x, "weight 50"), x -> x.count(13), 0, 1);
        keeps("its weight", x -> Due.use(x, "weight 40"), x -> Due.use(x, "weight 50"), x -> x.weight(0, 0), 40, 50);
        keeps("none in use", x -> Due.text(x, "weight 40"), x -> x.use(0), x -> x.count(13), -1, 0);
        keeps("lists", nothing, x -> x.copy(0, 1), x -> x.chao(), 0, 1);
    }

    /** Back to less: what is new then is as new as ever, and what came behind the image is there no more. */
    private static void imageOfLess() {
        SkyMargins x = new SkyMargins();
        x.image(0);
        x.copy(7, 63);
        x.copy(7, 63);
        x.look(0, 1);
        x.look(1, 1);
        x.stay(0, 5, 6, 7);
        x.hand(100, 200);
        x.form(0, 3, 9);
        x.sample(4, 4, 4);
        x.note(0, 9, 9, 0, 0);
        x.note(1, 9, 9, 0, 0);
        x.note(1, 9, 0, 0, 1);
        Due.use(x, "weight 90;late");
        x.terms(0, 9);
        due.is("back", 0, x.back(0));
        for (int what = 0; what < 7; what++) {
            due.is("count " + what, 0, x.count(what));
        }
        due.is("none in use", -1, x.count(13));
        due.is("no note", -2, x.of(0, 0));
        due.is("no tree", 0, x.tree());
        due.is("no text", -3, x.use(0));
        due.is("no hand", -2, x.form(0, 3, 1));
        due.is("the sample", 0, x.sample(4, 4, 1));
        due.is("the term", 3, x.terms(0, 3));
        due.is("a new copy", 0, x.copy(1, 2));
        due.is("not looked at", 0, x.look(0, 0));
        due.is("with no stay", 0, x.dates(0, 0));
        due.is("a new hand", 0, x.hand(0, 400));
        due.is("without forms", 0, x.form(0, 3, 0));
        due.is("a new note", 0, x.note(0, 9, 9, -1, 0));
        due.is("shared by itself", 1, x.of(0, 5));
        due.is("in no known hand", -1, x.of(0, 3));
        due.is("not cut", 20, x.cost(-1, 0));
        due.is("a new text", 0, Due.text(x, "weight 20"));
        x.use(0);
        due.is("by itself", 20, x.weight(9, 9));
    }

    /** Back to more: all that was there is there once more. */
    private static void imageOfMore() {
        SkyMargins x = new SkyMargins();
        x.image(0);
        for (int copy = 0; copy < 12; copy++) {
            x.copy(copy % 8, 63 - copy);
            x.look(copy, copy % 2);
            x.stay(copy, copy, 100 + copy, 200 + copy);
            x.hand(copy, 400 - copy);
            x.form(copy, copy % 6, 80 + copy);
            x.note(copy, copy, copy, copy, 0);
        }
        for (int text = 0; text < 8; text++) {
            x.sample(text, text % 6, 70 + text);
            Due.text(x, "weight " + (40 + text) + ";late if land=" + text + " and lists>51");
        }
        x.use(7);
        x.image(1);
        x.back(0);
        // Others in their places.
        x.copy(0, 0);
        x.hand(0, 0);
        Due.text(x, "weight 1");
        Due.write(x, 0, 59, 59);
        x.back(1);
        int[] counts = {12, 12, 12, 12, 8, 6, 12};
        for (int what = 0; what < counts.length; what++) {
            due.is("count " + what, counts[what], x.count(what));
        }
        due.is("in use", 7, x.count(13));
        for (int copy = 0; copy < 12; copy++) {
            int[] note = {copy, copy, copy, copy, 0, 1};
            for (int what = 0; what < 6; what++) {
                due.is("note", note[what], x.of(copy, what));
            }
            due.is("from", 100 + copy, x.dates(copy, 0));
            due.is("to", 200 + copy, x.dates(copy, 1));
            due.is("form", 80 + copy, x.form(copy, copy % 6, 0));
            due.is("look", copy % 2, x.look(copy, 0));
        }
        for (int text = 0; text < 8; text++) {
            due.is("sample", 70 + text, x.sample(text, text % 6, 0));
            due.is("late", text < 4 ? (text + 8 < 12 && 63 - text - 8 > 51 ? 2 : 1) : 1, x.late(text, -1));
            x.use(text);
            due.is("text", 40 + text, x.weight(0, 0));
        }
    }

    /** IMAGES stay: they are no other by what is done behind them, nor by going back to one of them. */
    private static void imagesStay() {
        SkyMargins x = Due.withCopies(1);
        Due.use(x, "weight 30");
        x.image(0);
        x.copy(0, 0);
        Due.write(x, 0, 0, 0);
        x.image(1);
        for (int round = 0; round < 3; round++) {
            x.back(0);
            due.is("one copy", 1, x.count(0));
            due.is("no note", 0, x.count(3));
            x.copy(5, 5);
            x.copy(5, 5);
            Due.use(x, "weight " + (50 + round));
            Due.write(x, 2, 3, 4);
            x.terms(2, 9);
            x.back(1);
            due.is("two copies", 2, x.count(0));
            due.is("one note", 1, x.count(3));
            due.is("at", 0, x.of(0, 1));
            due.is("cost", 60, x.tree());
            x.look(0, 1);
            x.look(1, 1);
            Due.write(x, 1, 7, 7);
        }
        x.image(0);
        x.back(1);
        due.is("kept anew, the other stays", 1, x.count(3));
        x.back(0);
        due.is("kept anew", 2, x.count(3));
        x.image(0);
        x.copy(0, 0);
        x.image(0);
        x.back(0);
        due.is("the newest of a number", 3, x.count(0));
    }

    /** Not the TAPE, FAULT, TRIMMED, the latest WORLD; nor how many calls were REFUSED. */
    private static void imageKeepsNot() {
        SkyMargins x = Due.withCopies(2);
        Due.use(x, "adds 100;copies 0");
        Due.text(x, "late ?");
        Due.feed(x, 60, 0, 0);
        x.row(0);
        x.run(1);
        x.copy(-1, 0);
        Due.feed(x, 1, 2, 255);
        x.image(0);
        Due.text(x, "?");
        due.is("the tape went into the text", 0, x.count(7));
        Due.feed(x, 60, 0, 0, 60);
        x.row(0);
        x.use(-1);
        Due.use(x, "adds 0");
        x.copy(0, 0);
        x.run(1);
        x.copy(-1, 0);
        x.look(9, 9);
        x.look(9, 1);
        Due.feed(x, 3, 4, 255, 5, 6, 255);
        due.is("back", 0, x.back(0));
        due.is("the tape's bytes", 6, x.count(7));
        due.is("the fault", -1, x.fault());
        due.is("the trimmed ones", 2, x.trimmed());
        due.is("the world", 0, x.world(0, 0));
        due.is("the world's copies", 0, x.world(2, 0));
        due.is("refused by -1", 3, x.count(8));
        due.is("refused by -2", 1, x.count(9));
        due.is("refused by -6", 2, x.count(12));
        due.is("two copies", 2, x.count(0));
        due.is("the tape is read as it is", 2, x.row(0));
        due.is("place", 3, x.of(0, 1));
        x.image(1);
        due.is("the tape is empty", 0, x.count(7));
        Due.feed(x, 7);
        x.back(1);
        due.is("not by going back", 1, x.count(7));
    }
}
