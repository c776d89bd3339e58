/** Promises 41 to 44: worlds drawn, and going back. */
public final class WorldTest {
    private static final Due due = new Due();

    public static void main(String[] args) {
        refused();
        drawnByHand();
        copiesInOrder();
        latestWorld();
        askedOfTheCopy();
        images();
        imagesKeepAll();
        imagesKeepNot();
        due.close();
    }

    private static void refused() {
        SkyMargins x = Due.withCopies(1);
        due.is("no world", -1, x.world(0, 0));
        due.is("seed below", -1, x.run(-1));
        due.is("seed beyond", -1, x.run(1000001));
        due.is("still no world", -1, x.world(0, 0));
        Due.use(x, "adds 0");
        due.is("largest seed", 0, x.run(1000000));
        due.is("smallest seed", 0, x.run(0));
        due.is("no notes", 0, x.world(0, 0));
        due.is("no first one", 0, x.world(0, 2));
        due.is("what 3", -1, x.world(0, 3));
        due.is("what -1", -1, x.world(0, -1));
        due.is("no copy", -1, x.world(1, 0));
        due.is("below", -1, x.world(-1, 0));
    }

    /** The draws told once more, for a copy and one that comes of it. */
    private static void drawnByHand() {
        SkyMargins x = Due.withCopies(2);
        Due.write(x, 0, 0, 0);
        Due.write(x, 1, 0, 0);
        for (int seed = 0; seed < 30; seed++) {
            long[] s = {seed};
            int first = 0;
            for (int chapter = 0; chapter < 12; chapter++) {
                first += draw(s) < 50 ? 1 : 0;
            }
            int taken = 0;
            int ofFirst = first > 0 ? 1 : 0;
            for (int note = 0; note < first; note++) {
                boolean takes = draw(s) < 50;
                taken += takes ? 1 : 0;
                ofFirst += takes && note == 0 ? 1 : 0;
            }
            int second = taken;
            for (int chapter = 0; chapter < 12; chapter++) {
                second += draw(s) < 50 ? 1 : 0;
            }
            due.is("run " + seed, first + second, x.run(seed));
            due.is("first", first, x.world(0, 0));
            due.is("first from nobody", 0, x.world(0, 1));
            due.is("who has the first one", ofFirst, x.world(0, 2));
            due.is("second", second, x.world(1, 0));
            due.is("second from the first", taken, x.world(1, 1));
        }
    }

    private static int draw(long[] s) {
        s[0] = (s[0] * 1103 + 12345) % 1000003;
        return (int) (s[0] % 100);
    }

    /** Copy 0 comes of copy 2, so 1 and 2 go ahead of it. */
    private static void copiesInOrder() {
        SkyMargins x = Due.withCopies(3);
        Due.write(x, 0, 0, 0);
        Due.write(x, 0, 1, 0);
        Due.write(x, 2, 0, 0);
        Due.write(x, 1, 9, 9);
        x.terms(1, 9);
        due.is("whose 0", 2, x.whose(0));
        due.is("whose 1", 100, x.whose(1));
        due.is("whose 2", 100, x.whose(2));
        long[] s = {77};
        int[] added = new int[3];
        for (int copy = 1; copy <= 2; copy++) {
            for (int chapter = 0; chapter < 12; chapter++) {
                added[copy] += draw(s) < 50 ? 1 : 0;
            }
        }
        int taken = 0;
        for (int note = 0; note < added[2]; note++) {
            taken += draw(s) < 50 ? 1 : 0;
        }
        for (int chapter = 0; chapter < 12; chapter++) {
            added[0] += draw(s) < 50 ? 1 : 0;
        }
        due.is("run", added[0] + added[1] + added[2] + taken, x.run(77));
        due.is("0", added[0] + taken, x.world(0, 0));
        due.is("0 from 2", taken, x.world(0, 1));
        due.is("1", added[1], x.world(1, 0));
        due.is("2", added[2], x.world(2, 0));
    }

    private static void latestWorld() {
        SkyMargins x = Due.withCopies(1);
        Due.use(x, "adds 100;copies 100");
        due.is("run", 12, x.run(1));
        x.copy(0, 0);
        due.is("not in the latest world", -1, x.world(1, 0));
        due.is("run again", 24, x.run(1));
        due.is("now it is", 12, x.world(1, 0));
        x.run(-1);
        due.is("refused ones make none", 12, x.world(1, 0));
        x.image(0);
        x.copy(0, 0);
        x.run(1);
        x.back(0);
        due.is("images do not keep it", 12, x.world(2, 0));
        for (int copy = 2; copy < 12; copy++) {
            x.copy(0, 0);
        }
        for (int copy = 0; copy < 12; copy++) {
            Due.write(x, copy, 0, 0);
            x.stay(copy, 0, copy, copy + 1);
        }
        due.is("a chain of twelve", 11, x.whose(11) + 1);
        due.is("as many as can be", 12 * 13 / 2 * 12, x.run(1));
        due.is("the last", 144, x.world(11, 0));
        due.is("from the one ahead", 132, x.world(11, 1));
        due.is("all have the first one", 12, x.world(11, 2));
    }

    private static void askedOfTheCopy() {
        SkyMargins x = new SkyMargins();
        x.copy(1, 0);
        x.copy(2, 7);
        Due.write(x, 0, 0, 0);
        Due.write(x, 1, 0, 0);
        Due.use(x, "copies 0;copies 100 if chapter=0 and land=2 and lists=7;adds 0;adds 100 if chapter=land");
        due.is("run", 3, x.run(9));
        due.is("taken", 1, x.world(1, 1));
        due.is("shared", 2, x.world(0, 2));
        Due.use(x, "copies 0-7;adds 1000");
        due.is("nearest", 24, x.run(9));
        due.is("taken none", 0, x.world(1, 1));
    }

    private static void images() {
        SkyMargins x = Due.withCopies(2);
        due.is("image below", -1, x.image(-1));
        due.is("image beyond", -1, x.image(2));
        due.is("back beyond", -1, x.back(2));
        due.is("back below", -1, x.back(-1));
        due.is("not kept", -2, x.back(1));
        due.is("image 1", 0, x.image(1));
        x.copy(0, 0);
        due.is("image 0", 0, x.image(0));
        due.is("back to 1", 0, x.back(1));
        due.is("two", 2, x.count(0));
        due.is("back to 0", 0, x.back(0));
        due.is("three", 3, x.count(0));
        due.is("images stay", 0, x.back(1));
        due.is("two again", 2, x.count(0));
        due.is("kept anew", 0, x.image(0));
        x.copy(0, 0);
        due.is("back to the newer", 0, x.back(0));
        due.is("two still", 2, x.count(0));
    }

    private static void imagesKeepAll() {
        SkyMargins x = new SkyMargins();
        x.copy(1, 3);
        x.copy(1, 1);
        x.stay(0, 1, 1, 2);
        x.hand(5, 6);
        x.form(0, 0, 7);
        x.sample(0, 0, 8);
        Due.write(x, 0, 1, 1);
        Due.text(x, "weight 30");
        x.use(0);
        x.terms(2, 5);
        x.image(0);
        x.look(0, 1);
        x.stay(1, 1, 3, 4);
        x.form(0, 0, 9);
        x.sample(0, 0, 9);
        Due.write(x, 1, 1, 1);
        x.use(-1);
        x.terms(2, 6);
        x.hand(0, 0);
        x.copy(2, 2);
        x.back(0);
        due.is("copies", 2, x.count(0));
        due.is("stays", 1, x.count(1));
        due.is("hands", 1, x.count(2));
        due.is("notes", 1, x.count(3));
        due.is("looked", 0, x.look(0, 1));
        due.is("form", 7, x.form(0, 0, 1));
        due.is("sample", 8, x.sample(0, 0, 1));
        due.is("used", 0, x.count(13));
        due.is("shared", 1, x.of(0, 5));
        due.is("tree", 90, x.tree());
        due.is("term", 5, x.terms(2, 1));
        due.is("text 1", 1, Due.text(x, "weight 40"));
        x.use(1);
        due.is("tree anew", 40, x.tree());
        x.back(0);
        due.is("text 1 is gone", -3, x.use(1));
        due.is("text 1 is another", 1, Due.text(x, "weight 50"));
        x.use(1);
        due.is("by the other", 50, x.weight(0, 0));
        due.is("new copies are as new", 2, x.copy(0, 0));
        due.is("new copies' looks", 0, x.look(2, 0));
        due.is("new hands are as new", 1, x.hand(0, 0));
        due.is("new hands' forms", 0, x.form(1, 0, 0));
    }

    private static void imagesKeepNot() {
        SkyMargins x = Due.withCopies(1);
        Due.feed(x, 60, 0, 0, 1);
        x.row(0);
        Due.text(x, "late if");
        Due.feed(x, 1, 2);
        x.image(0);
        Due.feed(x, 60, 0, 0);
        x.row(0);
        Due.text(x, "late what");
        Due.feed(x, 1, 2, 3);
        x.back(0);
        due.is("tape", 3, x.count(7));
        due.is("trimmed", 2, x.trimmed());
        due.is("fault", 5, x.fault());
        due.is("refused", 2, x.count(12));
    }
}
