import java.math.BigInteger;

/** The edges of promises 34 and 35: the chance that so many chapters were read, and where something is written. */
public final class ChapterEdgeTest {
    private static final int MIN = Edge.MIN;
    private static final int MAX = Edge.MAX;
    private static final Due due = new Due();
    private static final Edge standing = new Edge(due, Edge::standing);
    private static final Edge emptyOne = new Edge(due, SkyMargins::new);
    private static final Edge twelve = new Edge(due, () -> Edge.withCopies(12));

    public static void main(String[] args) {
        readNumbers();
        readChapterZeroAlways();
        readUpToTheLastWritten();
        readFiftyWithout();
        readNearestOfAHundred();
        readCut();
        readNoneIfItCannotBe();
        readAskedInTheNextChapter();
        readAskedOfTheCopyAlone();
        readExactly();
        stopsNumbers();
        stopsOfEachChapter();
        stopsOfWrittenOnes();
        due.close();
    }

    /** read: so many at least (1 .. 12); NONE. */
    private static void readNumbers() {
        standing.told("read of", -1, (x, n) -> x.read(n, 1), MIN, -1, 4, 11, 12, MAX);
        standing.told("read so many", -1, (x, n) -> x.read(0, n), MIN, -1, 0, 13, MAX);
        standing.told("read of none so many", -1, (x, n) -> x.read(4, n), 0, 1, 12, 13);
        standing.told("read one at least", 1000000, x -> x.read(3, 1));
        standing.told("read twelve at least", 1000000, x -> x.read(2, 12));
        emptyOne.told("read of none", -1, x -> x.read(0, 1));
        twelve.told("read of the twelfth", 1000000, x -> x.read(11, 1));
        twelve.told("read of a thirteenth", -1, x -> x.read(12, 1));
    }

    /** A reader reads CHAPTER 0. */
    private static void readChapterZeroAlways() {
        SkyMargins x = Due.withCopies(1);
        String[] texts = {"reads 0", "reads 100", "reads 0;notes 0", "reads 50;notes 99"};
        for (String text : texts) {
            Due.use(x, text);
            due.is(text, 1000000, x.read(0, 1));
        }
        Due.use(x, "reads 0");
        due.is("and no other", 0, x.read(0, 2));
        // Not asked of it, whether it is read.
        Due.use(x, "reads 0 if chapter=0;reads 100 if chapter>0;notes 0");
        due.is("asked of the chapters behind it", 1000000, x.read(0, 12));
    }

    /** By the CHAPTERS in which something is WRITTEN: all up to the last one were read. */
    private static void readUpToTheLastWritten() {
        for (int chapter = 0; chapter < 12; chapter++) {
            SkyMargins x = Due.withCopies(1);
            Due.write(x, 0, 5 * chapter + 4, 0);
            Due.use(x, "reads 10");
            for (int chapters = 1; chapters <= chapter + 1; chapters++) {
                due.is("written in " + chapter, 1000000, x.read(0, chapters));
            }
            if (chapter < 11) {
                // 10 of a hundred read on, half of these write nothing: 5 of 95, if none is behind the next one.
                int more = x.read(0, chapter + 2);
                due.is("one more than " + chapter, 1, more >= 50000 && more < 53000 ? 1 : 0);
            }
        }
        SkyMargins y = Due.withCopies(2);
        for (int kind = 1; kind < 4; kind++) {
            y.note(0, 59, 0, -1, kind);
        }
        Due.write(y, 1, 59, 0);
        due.is("what is not written tells nothing", 250000, y.read(0, 2));
        due.is("what is written tells", 1000000, y.read(1, 12));
    }

    /** 50 without. */
    private static void readFiftyWithout() {
        String[] texts = {"late", "reads 50;notes 50", "reads 1/0;notes 1/0", "reads 9 if 1=2;notes 9 if 1=2", "copies 3;adds 4"};
        for (String text : texts) {
            SkyMargins x = Due.withCopies(1);
            Due.write(x, 0, 50, 0);
            due.is("without a text", 333333, x.read(0, 12));
            Due.use(x, text);
            due.is(text, 333333, x.read(0, 12));
        }
        SkyMargins y = Due.withCopies(1);
        Due.use(y, "notes 0");
        due.is("reads without", 500000, y.read(0, 2));
        Due.use(y, "reads 100");
        due.is("notes without", 1000000, y.read(0, 12));
        Due.use(y, "reads 50");
        due.is("notes without, and no more read", 250000, y.read(0, 2));
    }

    /** 0 .. 100 of a hundred (else the nearest). */
    private static void readNearestOfAHundred() {
        String[] least = {"0", "0-1", "0-1000*1000*1000"};
        String[] most = {"100", "101", "1000*1000*1000"};
        for (int i = 0; i < 3; i++) {
            SkyMargins x = Due.withCopies(1);
            Due.use(x, "notes 0;reads " + least[i]);
            due.is("reads " + least[i], 0, x.read(0, 2));
            Due.use(x, "notes 0;reads " + most[i]);
            due.is("reads " + most[i], 1000000, x.read(0, 12));
            Due.use(x, "reads 50;notes " + least[i]);
            due.is("notes " + least[i], 500000, x.read(0, 2));
            Due.use(x, "reads 50;notes " + most[i]);
            due.is("notes " + most[i], -1, x.read(0, 1));
            Due.write(x, 0, 0, 0);
            due.is("written, notes " + most[i], 1000000, x.read(0, 1));
            due.is("not written behind, notes " + most[i], 0, x.read(0, 2));
        }
        int[] inside = {1, 99};
        for (int reads : inside) {
            SkyMargins x = Due.withCopies(1);
            Due.use(x, "notes 0;reads " + reads);
            due.is("reads " + reads, 10000 * reads, x.read(0, 2));
        }
    }

    /** In millionths, cut. */
    private static void readCut() {
        SkyMargins x = Due.withCopies(1);
        // Of one chapter in three parts one or two: notes 50 in the second alone.
        Due.use(x, "reads 50 if chapter=1;reads 0 if chapter>1;notes 0;notes 50 if chapter=1");
        due.is("a third", 333333, x.read(0, 2));
        Due.use(x, "reads 80 if chapter=1;reads 0 if chapter>1;notes 0;notes 50 if chapter=1");
        due.is("two thirds", 666666, x.read(0, 2));
        Due.use(x, "reads 1;notes 0");
        due.is("a millionth", 1, x.read(0, 4));
        due.is("less", 0, x.read(0, 5));
        Due.use(x, "reads 99;notes 0");
        due.is("99 of a hundred to the 11th", 895338, x.read(0, 12));
        Due.use(x, "reads 100;reads 99 if chapter=11;notes 0;notes 99 if chapter=11");
        // Read with nothing written 99 times of 10,000, not read 100 times.
        due.is("99 of 199", 497487, x.read(0, 12));
    }

    /** None, if it can't be as it is. */
    private static void readNoneIfItCannotBe() {
        for (int chapters = 1; chapters <= 12; chapters++) {
            int so = chapters;
            SkyMargins x = Due.withCopies(1);
            Due.use(x, "notes 100");
            due.is("nothing written where all write", -1, x.read(0, so));
            Due.use(x, "notes 0");
            due.is("nothing written where none writes", 1000000 >> so - 1, x.read(0, so));
            Due.write(x, 0, 59, 0);
            due.is("written where none writes", -1, x.read(0, so));
            Due.use(x, "reads 0");
            due.is("written where none reads", -1, x.read(0, so));
            Due.use(x, "reads 0 if chapter=11");
            due.is("written where none reads the last", -1, x.read(0, so));
            Due.use(x, "reads 0 if chapter=10");
            due.is("where none reads the one ahead", -1, x.read(0, so));
            Due.use(x, "reads 1");
            due.is("can be", 1000000, x.read(0, so));
        }
    }

    /** Goes on from one to the next with "reads" (asked of the COPY in the next CHAPTER). */
    private static void readAskedInTheNextChapter() {
        for (int chapter = 1; chapter < 12; chapter++) {
            SkyMargins x = Due.withCopies(1);
            Due.use(x, "notes 0;reads 100;reads 30 if chapter=" + chapter);
            due.is("up to it", 1000000, x.read(0, chapter));
            due.is("it", 300000, x.read(0, chapter + 1));
            due.is("behind it", 300000, x.read(0, 12));
            Due.use(x, "notes 0;reads 100;notes 50 if chapter=" + chapter + ";reads 50 if chapter=" + chapter);
            due.is("written nothing in it", 333333, x.read(0, 12));
        }
    }

    /** Of the COPY in a CHAPTER: chapter, land, lists, looked; what it is not asked of is 0. */
    private static void readAskedOfTheCopyAlone() {
        SkyMargins x = new SkyMargins();
        x.copy(7, 63);
        x.look(0, 1);
        x.hand(0, 400);
        x.hand(0, 400);
        x.note(0, 14, 9, 1, 0);
        x.note(0, 13, 0, 1, 3);
        Due.use(x, "notes 50;reads 0;reads 100 if chapter<4 and land=7 and lists=63 and looked=1 and place=0 and wording=0 "
            + "and shared=0 and hand=0 and kind=0");
        due.is("four were read", 1000000, x.read(0, 4));
        due.is("and no more", 0, x.read(0, 5));
        x.look(0, 0);
        due.is("not looked at, it can't be", -1, x.read(0, 1));
        Due.use(x, "reads 50;notes 0;notes 50 if chapter=2 and land=7 and lists=63 and looked=0 and place=0 and wording=0 "
            + "and shared=0 and hand=0 and kind=0");
        due.is("written in the one chapter", 1000000, x.read(0, 3));
        due.is("half of it one more", 500000, x.read(0, 4));
    }

    private static int percent(long sum) {
        return (int) Math.max(0, Math.min(100, sum));
    }

    /** Exactly: told once more with numbers of any size. */
    private static void readExactly() {
        int[][] texts = {{99, 0, 1, 0}, {100, -7, 3, 7}, {40, 5, 90, -6}, {1, 1, 1, 0}, {97, -1, 50, 1}, {3, 9, 99, -9},
            {100, -1, 0, 1}, {50, 0, 50, 0}};
        int[][] places = {{}, {0}, {59}, {0, 12}, {3, 29, 30}, {4, 5, 6, 41}, {0, 59}};
        for (int[] t : texts) {
            for (int[] written : places) {
                SkyMargins x = Due.withCopies(1);
                for (int place : written) {
                    Due.write(x, 0, place, 0);
                }
                Due.use(x, "reads " + t[0] + sum(t[1]) + ";notes " + t[2] + sum(t[3]));
                for (int chapters = 1; chapters <= 12; chapters++) {
                    due.is("reads " + t[0] + sum(t[1]) + " notes " + t[2] + sum(t[3]) + " " + written.length,
                        chance(t, written, chapters), x.read(0, chapters));
                }
            }
        }
    }

    private static String sum(int times) {
        return times < 0 ? "-" + -times + "*chapter" : "+" + times + "*chapter";
    }

    private static int chance(int[] text, int[] written, int chapters) {
        BigInteger all = BigInteger.ZERO;
        BigInteger enough = BigInteger.ZERO;
        for (int read = 1; read <= 12; read++) {
            BigInteger one = BigInteger.ONE;
            for (int chapter = 0; chapter < 12; chapter++) {
                boolean wrote = false;
                for (int place : written) {
                    wrote |= place / 5 == chapter;
                }
                int reads = percent(text[0] + (long) text[1] * chapter);
                int notes = percent(text[2] + (long) text[3] * chapter);
                int here = chapter >= read ? wrote ? 0 : 100 : wrote ? notes : 100 - notes;
                int on = chapter == 0 || chapter > read ? 100 : chapter < read ? reads : 100 - reads;
                one = one.multiply(BigInteger.valueOf((long) here * on));
            }
            all = all.add(one);
            enough = read >= chapters ? enough.add(one) : enough;
        }
        return all.signum() == 0 ? -1 : enough.multiply(BigInteger.valueOf(1000000)).divide(all).intValue();
    }

    /** stops: NONE; the last of these (1; NONE). */
    private static void stopsNumbers() {
        standing.told("stops, how many, of", -1, (x, n) -> x.stops(n, 0), MIN, -1, 4, 11, 12, MAX);
        standing.told("stops, the last, of", -1, (x, n) -> x.stops(n, 1), MIN, -1, 4, 11, 12, MAX);
        standing.told("stops what", -1, (x, n) -> x.stops(2, n), MIN, -1, 2, MAX);
        standing.told("stops, how many", 2, x -> x.stops(2, 0));
        standing.told("stops, the last", 11, x -> x.stops(2, 1));
        emptyOne.told("stops of none", -1, (x, n) -> x.stops(0, n), 0, 1);
        twelve.told("nothing written", 0, x -> x.stops(11, 0));
        twelve.told("no last one", -1, x -> x.stops(11, 1));
        twelve.told("stops of a thirteenth", -1, x -> x.stops(12, 0));
    }

    private static void stopsOfEachChapter() {
        SkyMargins x = Due.withCopies(1);
        for (int place = 0; place < 60; place++) {
            SkyMargins one = Due.withCopies(1);
            Due.write(one, 0, place, 99);
            due.is("one chapter", 1, one.stops(0, 0));
            due.is("the last at " + place, place / 5, one.stops(0, 1));
            Due.write(x, 0, place, 0);
            due.is("chapters up to " + place, place / 5 + 1, x.stops(0, 0));
            due.is("the last up to " + place, place / 5, x.stops(0, 1));
        }
        SkyMargins y = Due.withCopies(1);
        int[] places = {59, 0, 30};
        for (int i = 0; i < 3; i++) {
            Due.write(y, 0, places[i], 0);
            due.is("with gaps", i + 1, y.stops(0, 0));
            due.is("the last one of them", 11, y.stops(0, 1));
        }
    }

    /** Something WRITTEN. */
    private static void stopsOfWrittenOnes() {
        SkyMargins x = Due.withCopies(2);
        for (int kind = 1; kind < 4; kind++) {
            x.note(0, 10 * kind, 0, -1, kind);
            due.is("not written", 0, x.stops(0, 0));
            due.is("no last one", -1, x.stops(0, 1));
        }
        Due.write(x, 1, 59, 0);
        due.is("in another copy", 0, x.stops(0, 0));
        due.is("in another copy, no last one", -1, x.stops(0, 1));
        Due.write(x, 0, 0, 0);
        due.is("one", 1, x.stops(0, 0));
        due.is("the first chapter is the last", 0, x.stops(0, 1));
    }
}
